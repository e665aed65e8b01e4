theorem dX5_init_0 : decode cX5_init 0 = .ok (.aload_n 0, 1) := by decide +kernel
theorem dX5_init_1 : decode cX5_init 1 = .ok (.invokespecial 1, 3) := by decide +kernel
theorem dX5_init_4 : decode cX5_init 4 = .ok (.aload_n 0, 1) := by decide +kernel
theorem dX5_init_5 : decode cX5_init 5 = .ok (.new 7, 3) := by decide +kernel
theorem dX5_init_8 : decode cX5_init 8 = .ok (.dup, 1) := by decide +kernel
theorem dX5_init_9 : decode cX5_init 9 = .ok (.invokespecial 9, 3) := by decide +kernel
theorem dX5_init_12 : decode cX5_init 12 = .ok (.putfield 10, 3) := by decide +kernel
theorem dX5_init_15 : decode cX5_init 15 = .ok (.aload_n 0, 1) := by decide +kernel
theorem dX5_init_16 : decode cX5_init 16 = .ok (.new 16, 3) := by decide +kernel
theorem dX5_init_19 : decode cX5_init 19 = .ok (.dup, 1) := by decide +kernel
theorem dX5_init_20 : decode cX5_init 20 = .ok (.invokespecial 18, 3) := by decide +kernel
theorem dX5_init_23 : decode cX5_init 23 = .ok (.putfield 19, 3) := by decide +kernel
theorem dX5_init_26 : decode cX5_init 26 = .ok (.aload_n 0, 1) := by decide +kernel
theorem dX5_init_27 : decode cX5_init 27 = .ok (.new 16, 3) := by decide +kernel
theorem dX5_init_30 : decode cX5_init 30 = .ok (.dup, 1) := by decide +kernel
theorem dX5_init_31 : decode cX5_init 31 = .ok (.invokespecial 18, 3) := by decide +kernel
theorem dX5_init_34 : decode cX5_init 34 = .ok (.putfield 23, 3) := by decide +kernel
theorem dX5_init_37 : decode cX5_init 37 = .ok (.aload_n 0, 1) := by decide +kernel
theorem dX5_init_38 : decode cX5_init 38 = .ok (.iconst 2, 1) := by decide +kernel
theorem dX5_init_39 : decode cX5_init 39 = .ok (.anewarray 16, 3) := by decide +kernel
theorem dX5_init_42 : decode cX5_init 42 = .ok (.putfield 26, 3) := by decide +kernel
theorem dX5_init_45 : decode cX5_init 45 = .ok (.aload_n 0, 1) := by decide +kernel
theorem dX5_init_46 : decode cX5_init 46 = .ok (.iconst 2, 1) := by decide +kernel
theorem dX5_init_47 : decode cX5_init 47 = .ok (.newarray .boolean, 2) := by decide +kernel
theorem dX5_init_49 : decode cX5_init 49 = .ok (.putfield 30, 3) := by decide +kernel
theorem dX5_init_52 : decode cX5_init 52 = .ok (.aload_n 0, 1) := by decide +kernel
theorem dX5_init_53 : decode cX5_init 53 = .ok (.new 34, 3) := by decide +kernel
theorem dX5_init_56 : decode cX5_init 56 = .ok (.dup, 1) := by decide +kernel
theorem dX5_init_57 : decode cX5_init 57 = .ok (.invokespecial 36, 3) := by decide +kernel
theorem dX5_init_60 : decode cX5_init 60 = .ok (.putfield 37, 3) := by decide +kernel
theorem dX5_init_63 : decode cX5_init 63 = .ok (.aload_n 0, 1) := by decide +kernel
theorem dX5_init_64 : decode cX5_init 64 = .ok (.new 41, 3) := by decide +kernel
theorem dX5_init_67 : decode cX5_init 67 = .ok (.dup, 1) := by decide +kernel
theorem dX5_init_68 : decode cX5_init 68 = .ok (.aload_n 0, 1) := by decide +kernel
theorem dX5_init_69 : decode cX5_init 69 = .ok (.getfield 19, 3) := by decide +kernel
theorem dX5_init_72 : decode cX5_init 72 = .ok (.aload_n 0, 1) := by decide +kernel
theorem dX5_init_73 : decode cX5_init 73 = .ok (.getfield 37, 3) := by decide +kernel
theorem dX5_init_76 : decode cX5_init 76 = .ok (.invokespecial 43, 3) := by decide +kernel
theorem dX5_init_79 : decode cX5_init 79 = .ok (.putfield 46, 3) := by decide +kernel
theorem dX5_init_82 : decode cX5_init 82 = .ok (.aload_n 0, 1) := by decide +kernel
theorem dX5_init_83 : decode cX5_init 83 = .ok (.iconst 4, 1) := by decide +kernel
theorem dX5_init_84 : decode cX5_init 84 = .ok (.anewarray 50, 3) := by decide +kernel
theorem dX5_init_87 : decode cX5_init 87 = .ok (.putfield 52, 3) := by decide +kernel
theorem dX5_init_90 : decode cX5_init 90 = .ok (.aload_n 0, 1) := by decide +kernel
theorem dX5_init_91 : decode cX5_init 91 = .ok (.iconst 5, 1) := by decide +kernel
theorem dX5_init_92 : decode cX5_init 92 = .ok (.newarray .int, 2) := by decide +kernel
theorem dX5_init_94 : decode cX5_init 94 = .ok (.putfield 56, 3) := by decide +kernel
theorem dX5_init_97 : decode cX5_init 97 = .ok (.aload_n 0, 1) := by decide +kernel
theorem dX5_init_98 : decode cX5_init 98 = .ok (.bipush 36, 2) := by decide +kernel
theorem dX5_init_100 : decode cX5_init 100 = .ok (.newarray .int, 2) := by decide +kernel
theorem dX5_init_102 : decode cX5_init 102 = .ok (.putfield 60, 3) := by decide +kernel
theorem dX5_init_105 : decode cX5_init 105 = .ok (.aload_n 0, 1) := by decide +kernel
theorem dX5_init_106 : decode cX5_init 106 = .ok (.iconst 0, 1) := by decide +kernel
theorem dX5_init_107 : decode cX5_init 107 = .ok (.putfield 63, 3) := by decide +kernel
theorem dX5_init_110 : decode cX5_init 110 = .ok (.iconst 0, 1) := by decide +kernel
theorem dX5_init_111 : decode cX5_init 111 = .ok (.istore_n 1, 1) := by decide +kernel
theorem dX5_init_112 : decode cX5_init 112 = .ok (.iload_n 1, 1) := by decide +kernel
theorem dX5_init_113 : decode cX5_init 113 = .ok (.iconst 2, 1) := by decide +kernel
theorem dX5_init_114 : decode cX5_init 114 = .ok (.if_icmp .ge 22, 3) := by decide +kernel
theorem dX5_init_117 : decode cX5_init 117 = .ok (.aload_n 0, 1) := by decide +kernel
theorem dX5_init_118 : decode cX5_init 118 = .ok (.getfield 26, 3) := by decide +kernel
theorem dX5_init_121 : decode cX5_init 121 = .ok (.iload_n 1, 1) := by decide +kernel
theorem dX5_init_122 : decode cX5_init 122 = .ok (.new 16, 3) := by decide +kernel
theorem dX5_init_125 : decode cX5_init 125 = .ok (.dup, 1) := by decide +kernel
theorem dX5_init_126 : decode cX5_init 126 = .ok (.invokespecial 18, 3) := by decide +kernel
theorem dX5_init_129 : decode cX5_init 129 = .ok (.aastore, 1) := by decide +kernel
theorem dX5_init_130 : decode cX5_init 130 = .ok (.iinc 1 1, 3) := by decide +kernel
theorem dX5_init_133 : decode cX5_init 133 = .ok (.goto (-21), 3) := by decide +kernel
theorem dX5_init_136 : decode cX5_init 136 = .ok (.iconst 0, 1) := by decide +kernel
theorem dX5_init_137 : decode cX5_init 137 = .ok (.istore_n 1, 1) := by decide +kernel
theorem dX5_init_138 : decode cX5_init 138 = .ok (.iload_n 1, 1) := by decide +kernel
theorem dX5_init_139 : decode cX5_init 139 = .ok (.iconst 4, 1) := by decide +kernel
theorem dX5_init_140 : decode cX5_init 140 = .ok (.if_icmp .ge 22, 3) := by decide +kernel
theorem dX5_init_143 : decode cX5_init 143 = .ok (.aload_n 0, 1) := by decide +kernel
theorem dX5_init_144 : decode cX5_init 144 = .ok (.getfield 52, 3) := by decide +kernel
theorem dX5_init_147 : decode cX5_init 147 = .ok (.iload_n 1, 1) := by decide +kernel
theorem dX5_init_148 : decode cX5_init 148 = .ok (.new 50, 3) := by decide +kernel
theorem dX5_init_151 : decode cX5_init 151 = .ok (.dup, 1) := by decide +kernel
theorem dX5_init_152 : decode cX5_init 152 = .ok (.invokespecial 67, 3) := by decide +kernel
theorem dX5_init_155 : decode cX5_init 155 = .ok (.aastore, 1) := by decide +kernel
theorem dX5_init_156 : decode cX5_init 156 = .ok (.iinc 1 1, 3) := by decide +kernel
theorem dX5_init_159 : decode cX5_init 159 = .ok (.goto (-21), 3) := by decide +kernel
theorem dX5_init_162 : decode cX5_init 162 = .ok (.return_, 1) := by decide +kernel
theorem dX5_feed_0 : decode cX5_feed 0 = .ok (.iload_n 1, 1) := by decide +kernel
theorem dX5_feed_1 : decode cX5_feed 1 = .ok (.iconst 0, 1) := by decide +kernel
theorem dX5_feed_2 : decode cX5_feed 2 = .ok (.bipush 127, 2) := by decide +kernel
theorem dX5_feed_4 : decode cX5_feed 4 = .ok (.invokestatic 68, 3) := by decide +kernel
theorem dX5_feed_7 : decode cX5_feed 7 = .ok (.ifCond .ne 5, 3) := by decide +kernel
theorem dX5_feed_10 : decode cX5_feed 10 = .ok (.iconst (-1), 1) := by decide +kernel
theorem dX5_feed_11 : decode cX5_feed 11 = .ok (.ireturn, 1) := by decide +kernel
theorem dX5_feed_12 : decode cX5_feed 12 = .ok (.aload_n 0, 1) := by decide +kernel
theorem dX5_feed_13 : decode cX5_feed 13 = .ok (.getfield 10, 3) := by decide +kernel
theorem dX5_feed_16 : decode cX5_feed 16 = .ok (.iload_n 1, 1) := by decide +kernel
theorem dX5_feed_17 : decode cX5_feed 17 = .ok (.invokevirtual 72, 3) := by decide +kernel
theorem dX5_feed_20 : decode cX5_feed 20 = .ok (.ifCond .eq 13, 3) := by decide +kernel
theorem dX5_feed_23 : decode cX5_feed 23 = .ok (.aload_n 0, 1) := by decide +kernel
theorem dX5_feed_24 : decode cX5_feed 24 = .ok (.getfield 10, 3) := by decide +kernel
theorem dX5_feed_27 : decode cX5_feed 27 = .ok (.getfield 76, 3) := by decide +kernel
theorem dX5_feed_30 : decode cX5_feed 30 = .ok (.goto 5, 3) := by decide +kernel
theorem dX5_feed_33 : decode cX5_feed 33 = .ok (.bipush (-3), 2) := by decide +kernel
theorem dX5_feed_35 : decode cX5_feed 35 = .ok (.ireturn, 1) := by decide +kernel
theorem dX5_end_0 : decode cX5_end 0 = .ok (.iload_n 1, 1) := by decide +kernel
theorem dX5_end_1 : decode cX5_end 1 = .ok (.iconst 0, 1) := by decide +kernel
theorem dX5_end_2 : decode cX5_end 2 = .ok (.aload_n 0, 1) := by decide +kernel
theorem dX5_end_3 : decode cX5_end 3 = .ok (.getfield 10, 3) := by decide +kernel
theorem dX5_end_6 : decode cX5_end 6 = .ok (.getfield 76, 3) := by decide +kernel
theorem dX5_end_9 : decode cX5_end 9 = .ok (.invokestatic 68, 3) := by decide +kernel
theorem dX5_end_12 : decode cX5_end 12 = .ok (.ifCond .ne 5, 3) := by decide +kernel
theorem dX5_end_15 : decode cX5_end 15 = .ok (.iconst (-1), 1) := by decide +kernel
theorem dX5_end_16 : decode cX5_end 16 = .ok (.ireturn, 1) := by decide +kernel
theorem dX5_end_17 : decode cX5_end 17 = .ok (.aload_n 0, 1) := by decide +kernel
theorem dX5_end_18 : decode cX5_end 18 = .ok (.getfield 10, 3) := by decide +kernel
theorem dX5_end_21 : decode cX5_end 21 = .ok (.getfield 76, 3) := by decide +kernel
theorem dX5_end_24 : decode cX5_end 24 = .ok (.istore_n 2, 1) := by decide +kernel
theorem dX5_end_25 : decode cX5_end 25 = .ok (.aload_n 0, 1) := by decide +kernel
theorem dX5_end_26 : decode cX5_end 26 = .ok (.getfield 10, 3) := by decide +kernel
theorem dX5_end_29 : decode cX5_end 29 = .ok (.iload_n 1, 1) := by decide +kernel
theorem dX5_end_30 : decode cX5_end 30 = .ok (.putfield 76, 3) := by decide +kernel
theorem dX5_end_33 : decode cX5_end 33 = .ok (.iload_n 2, 1) := by decide +kernel
theorem dX5_end_34 : decode cX5_end 34 = .ok (.ireturn, 1) := by decide +kernel
theorem dX5_text_0 : decode cX5_text 0 = .ok (.aload_n 0, 1) := by decide +kernel
theorem dX5_text_1 : decode cX5_text 1 = .ok (.getfield 10, 3) := by decide +kernel
theorem dX5_text_4 : decode cX5_text 4 = .ok (.invokevirtual 79, 3) := by decide +kernel
theorem dX5_text_7 : decode cX5_text 7 = .ok (.istore_n 1, 1) := by decide +kernel
theorem dX5_text_8 : decode cX5_text 8 = .ok (.iload_n 1, 1) := by decide +kernel
theorem dX5_text_9 : decode cX5_text 9 = .ok (.ifCond .lt 45, 3) := by decide +kernel
theorem dX5_text_12 : decode cX5_text 12 = .ok (.aload_n 0, 1) := by decide +kernel
theorem dX5_text_13 : decode cX5_text 13 = .ok (.getfield 19, 3) := by decide +kernel
theorem dX5_text_16 : decode cX5_text 16 = .ok (.aload_n 0, 1) := by decide +kernel
theorem dX5_text_17 : decode cX5_text 17 = .ok (.getfield 10, 3) := by decide +kernel
theorem dX5_text_20 : decode cX5_text 20 = .ok (.getfield 83, 3) := by decide +kernel
theorem dX5_text_23 : decode cX5_text 23 = .ok (.invokevirtual 86, 3) := by decide +kernel
theorem dX5_text_26 : decode cX5_text 26 = .ok (.aload_n 0, 1) := by decide +kernel
theorem dX5_text_27 : decode cX5_text 27 = .ok (.getfield 37, 3) := by decide +kernel
theorem dX5_text_30 : decode cX5_text 30 = .ok (.iconst 0, 1) := by decide +kernel
theorem dX5_text_31 : decode cX5_text 31 = .ok (.putfield 90, 3) := by decide +kernel
theorem dX5_text_34 : decode cX5_text 34 = .ok (.iconst 0, 1) := by decide +kernel
theorem dX5_text_35 : decode cX5_text 35 = .ok (.istore_n 2, 1) := by decide +kernel
theorem dX5_text_36 : decode cX5_text 36 = .ok (.iload_n 2, 1) := by decide +kernel
theorem dX5_text_37 : decode cX5_text 37 = .ok (.iconst 2, 1) := by decide +kernel
theorem dX5_text_38 : decode cX5_text 38 = .ok (.if_icmp .ge 16, 3) := by decide +kernel
theorem dX5_text_41 : decode cX5_text 41 = .ok (.aload_n 0, 1) := by decide +kernel
theorem dX5_text_42 : decode cX5_text 42 = .ok (.getfield 30, 3) := by decide +kernel
theorem dX5_text_45 : decode cX5_text 45 = .ok (.iload_n 2, 1) := by decide +kernel
theorem dX5_text_46 : decode cX5_text 46 = .ok (.iconst 0, 1) := by decide +kernel
theorem dX5_text_47 : decode cX5_text 47 = .ok (.bastore, 1) := by decide +kernel
theorem dX5_text_48 : decode cX5_text 48 = .ok (.iinc 2 1, 3) := by decide +kernel
theorem dX5_text_51 : decode cX5_text 51 = .ok (.goto (-15), 3) := by decide +kernel
theorem dX5_text_54 : decode cX5_text 54 = .ok (.iload_n 1, 1) := by decide +kernel
theorem dX5_text_55 : decode cX5_text 55 = .ok (.ireturn, 1) := by decide +kernel
theorem dX5_fault_0 : decode cX5_fault 0 = .ok (.aload_n 0, 1) := by decide +kernel
theorem dX5_fault_1 : decode cX5_fault 1 = .ok (.getfield 10, 3) := by decide +kernel
theorem dX5_fault_4 : decode cX5_fault 4 = .ok (.getfield 93, 3) := by decide +kernel
theorem dX5_fault_7 : decode cX5_fault 7 = .ok (.ireturn, 1) := by decide +kernel
theorem dX5_rule_0 : decode cX5_rule 0 = .ok (.iload_n 1, 1) := by decide +kernel
theorem dX5_rule_1 : decode cX5_rule 1 = .ok (.tableswitch 101 0 6 #[43, 51, 59, 67, 75, 83, 91], 43) := by decide +kernel
theorem dX5_rule_44 : decode cX5_rule 44 = .ok (.aload_n 0, 1) := by decide +kernel
theorem dX5_rule_45 : decode cX5_rule 45 = .ok (.getfield 19, 3) := by decide +kernel
theorem dX5_rule_48 : decode cX5_rule 48 = .ok (.getfield 96, 3) := by decide +kernel
theorem dX5_rule_51 : decode cX5_rule 51 = .ok (.ireturn, 1) := by decide +kernel
theorem dX5_rule_52 : decode cX5_rule 52 = .ok (.aload_n 0, 1) := by decide +kernel
theorem dX5_rule_53 : decode cX5_rule 53 = .ok (.getfield 19, 3) := by decide +kernel
theorem dX5_rule_56 : decode cX5_rule 56 = .ok (.getfield 99, 3) := by decide +kernel
theorem dX5_rule_59 : decode cX5_rule 59 = .ok (.ireturn, 1) := by decide +kernel
theorem dX5_rule_60 : decode cX5_rule 60 = .ok (.aload_n 0, 1) := by decide +kernel
theorem dX5_rule_61 : decode cX5_rule 61 = .ok (.getfield 19, 3) := by decide +kernel
theorem dX5_rule_64 : decode cX5_rule 64 = .ok (.getfield 102, 3) := by decide +kernel
theorem dX5_rule_67 : decode cX5_rule 67 = .ok (.ireturn, 1) := by decide +kernel
theorem dX5_rule_68 : decode cX5_rule 68 = .ok (.aload_n 0, 1) := by decide +kernel
theorem dX5_rule_69 : decode cX5_rule 69 = .ok (.getfield 19, 3) := by decide +kernel
theorem dX5_rule_72 : decode cX5_rule 72 = .ok (.getfield 105, 3) := by decide +kernel
theorem dX5_rule_75 : decode cX5_rule 75 = .ok (.ireturn, 1) := by decide +kernel
theorem dX5_rule_76 : decode cX5_rule 76 = .ok (.aload_n 0, 1) := by decide +kernel
theorem dX5_rule_77 : decode cX5_rule 77 = .ok (.getfield 19, 3) := by decide +kernel
theorem dX5_rule_80 : decode cX5_rule 80 = .ok (.getfield 108, 3) := by decide +kernel
theorem dX5_rule_83 : decode cX5_rule 83 = .ok (.ireturn, 1) := by decide +kernel
theorem dX5_rule_84 : decode cX5_rule 84 = .ok (.aload_n 0, 1) := by decide +kernel
theorem dX5_rule_85 : decode cX5_rule 85 = .ok (.getfield 19, 3) := by decide +kernel
theorem dX5_rule_88 : decode cX5_rule 88 = .ok (.getfield 111, 3) := by decide +kernel
theorem dX5_rule_91 : decode cX5_rule 91 = .ok (.ireturn, 1) := by decide +kernel
theorem dX5_rule_92 : decode cX5_rule 92 = .ok (.aload_n 0, 1) := by decide +kernel
theorem dX5_rule_93 : decode cX5_rule 93 = .ok (.getfield 19, 3) := by decide +kernel
theorem dX5_rule_96 : decode cX5_rule 96 = .ok (.bipush (-4), 2) := by decide +kernel
theorem dX5_rule_98 : decode cX5_rule 98 = .ok (.invokevirtual 114, 3) := by decide +kernel
theorem dX5_rule_101 : decode cX5_rule 101 = .ok (.ireturn, 1) := by decide +kernel
theorem dX5_rule_102 : decode cX5_rule 102 = .ok (.iconst (-1), 1) := by decide +kernel
theorem dX5_rule_103 : decode cX5_rule 103 = .ok (.ireturn, 1) := by decide +kernel
theorem dX5_part_0 : decode cX5_part 0 = .ok (.aload_n 0, 1) := by decide +kernel
theorem dX5_part_1 : decode cX5_part 1 = .ok (.getfield 19, 3) := by decide +kernel
theorem dX5_part_4 : decode cX5_part 4 = .ok (.iload_n 1, 1) := by decide +kernel
theorem dX5_part_5 : decode cX5_part 5 = .ok (.invokevirtual 118, 3) := by decide +kernel
theorem dX5_part_8 : decode cX5_part 8 = .ok (.ifCond .ne 5, 3) := by decide +kernel
theorem dX5_part_11 : decode cX5_part 11 = .ok (.iconst (-1), 1) := by decide +kernel
theorem dX5_part_12 : decode cX5_part 12 = .ok (.ireturn, 1) := by decide +kernel
theorem dX5_part_13 : decode cX5_part 13 = .ok (.iload_n 2, 1) := by decide +kernel
theorem dX5_part_14 : decode cX5_part 14 = .ok (.tableswitch 55 0 2 #[26, 36, 46], 26) := by decide +kernel
theorem dX5_part_40 : decode cX5_part 40 = .ok (.aload_n 0, 1) := by decide +kernel
theorem dX5_part_41 : decode cX5_part 41 = .ok (.getfield 19, 3) := by decide +kernel
theorem dX5_part_44 : decode cX5_part 44 = .ok (.getfield 121, 3) := by decide +kernel
theorem dX5_part_47 : decode cX5_part 47 = .ok (.iload_n 1, 1) := by decide +kernel
theorem dX5_part_48 : decode cX5_part 48 = .ok (.iaload, 1) := by decide +kernel
theorem dX5_part_49 : decode cX5_part 49 = .ok (.ireturn, 1) := by decide +kernel
theorem dX5_part_50 : decode cX5_part 50 = .ok (.aload_n 0, 1) := by decide +kernel
theorem dX5_part_51 : decode cX5_part 51 = .ok (.getfield 19, 3) := by decide +kernel
theorem dX5_part_54 : decode cX5_part 54 = .ok (.getfield 124, 3) := by decide +kernel
theorem dX5_part_57 : decode cX5_part 57 = .ok (.iload_n 1, 1) := by decide +kernel
theorem dX5_part_58 : decode cX5_part 58 = .ok (.iaload, 1) := by decide +kernel
theorem dX5_part_59 : decode cX5_part 59 = .ok (.ireturn, 1) := by decide +kernel
theorem dX5_part_60 : decode cX5_part 60 = .ok (.aload_n 0, 1) := by decide +kernel
theorem dX5_part_61 : decode cX5_part 61 = .ok (.getfield 19, 3) := by decide +kernel
theorem dX5_part_64 : decode cX5_part 64 = .ok (.iload_n 1, 1) := by decide +kernel
theorem dX5_part_65 : decode cX5_part 65 = .ok (.invokevirtual 127, 3) := by decide +kernel
theorem dX5_part_68 : decode cX5_part 68 = .ok (.ireturn, 1) := by decide +kernel
theorem dX5_part_69 : decode cX5_part 69 = .ok (.iconst (-1), 1) := by decide +kernel
theorem dX5_part_70 : decode cX5_part 70 = .ok (.ireturn, 1) := by decide +kernel
theorem dX5_layer_0 : decode cX5_layer 0 = .ok (.aload_n 0, 1) := by decide +kernel
theorem dX5_layer_1 : decode cX5_layer 1 = .ok (.getfield 19, 3) := by decide +kernel
theorem dX5_layer_4 : decode cX5_layer 4 = .ok (.iload_n 1, 1) := by decide +kernel
theorem dX5_layer_5 : decode cX5_layer 5 = .ok (.invokevirtual 118, 3) := by decide +kernel
theorem dX5_layer_8 : decode cX5_layer 8 = .ok (.ifCond .eq 22, 3) := by decide +kernel
theorem dX5_layer_11 : decode cX5_layer 11 = .ok (.iload_n 2, 1) := by decide +kernel
theorem dX5_layer_12 : decode cX5_layer 12 = .ok (.iconst 0, 1) := by decide +kernel
theorem dX5_layer_13 : decode cX5_layer 13 = .ok (.aload_n 0, 1) := by decide +kernel
theorem dX5_layer_14 : decode cX5_layer 14 = .ok (.getfield 19, 3) := by decide +kernel
theorem dX5_layer_17 : decode cX5_layer 17 = .ok (.getfield 124, 3) := by decide +kernel
theorem dX5_layer_20 : decode cX5_layer 20 = .ok (.iload_n 1, 1) := by decide +kernel
theorem dX5_layer_21 : decode cX5_layer 21 = .ok (.iaload, 1) := by decide +kernel
theorem dX5_layer_22 : decode cX5_layer 22 = .ok (.iconst 1, 1) := by decide +kernel
theorem dX5_layer_23 : decode cX5_layer 23 = .ok (.isub, 1) := by decide +kernel
theorem dX5_layer_24 : decode cX5_layer 24 = .ok (.invokestatic 68, 3) := by decide +kernel
theorem dX5_layer_27 : decode cX5_layer 27 = .ok (.ifCond .ne 5, 3) := by decide +kernel
theorem dX5_layer_30 : decode cX5_layer 30 = .ok (.iconst (-1), 1) := by decide +kernel
theorem dX5_layer_31 : decode cX5_layer 31 = .ok (.ireturn, 1) := by decide +kernel
theorem dX5_layer_32 : decode cX5_layer 32 = .ok (.aload_n 0, 1) := by decide +kernel
theorem dX5_layer_33 : decode cX5_layer 33 = .ok (.getfield 19, 3) := by decide +kernel
theorem dX5_layer_36 : decode cX5_layer 36 = .ok (.getfield 130, 3) := by decide +kernel
theorem dX5_layer_39 : decode cX5_layer 39 = .ok (.iload_n 1, 1) := by decide +kernel
theorem dX5_layer_40 : decode cX5_layer 40 = .ok (.iconst 4, 1) := by decide +kernel
theorem dX5_layer_41 : decode cX5_layer 41 = .ok (.imul, 1) := by decide +kernel
theorem dX5_layer_42 : decode cX5_layer 42 = .ok (.iload_n 2, 1) := by decide +kernel
theorem dX5_layer_43 : decode cX5_layer 43 = .ok (.iadd, 1) := by decide +kernel
theorem dX5_layer_44 : decode cX5_layer 44 = .ok (.iaload, 1) := by decide +kernel
theorem dX5_layer_45 : decode cX5_layer 45 = .ok (.ireturn, 1) := by decide +kernel
theorem dX5_sitter_0 : decode cX5_sitter 0 = .ok (.aload_n 0, 1) := by decide +kernel
theorem dX5_sitter_1 : decode cX5_sitter 1 = .ok (.getfield 19, 3) := by decide +kernel
theorem dX5_sitter_4 : decode cX5_sitter 4 = .ok (.iload_n 1, 1) := by decide +kernel
theorem dX5_sitter_5 : decode cX5_sitter 5 = .ok (.invokevirtual 133, 3) := by decide +kernel
theorem dX5_sitter_8 : decode cX5_sitter 8 = .ok (.ifCond .ne 5, 3) := by decide +kernel
theorem dX5_sitter_11 : decode cX5_sitter 11 = .ok (.iconst (-1), 1) := by decide +kernel
theorem dX5_sitter_12 : decode cX5_sitter 12 = .ok (.ireturn, 1) := by decide +kernel
theorem dX5_sitter_13 : decode cX5_sitter 13 = .ok (.iload_n 2, 1) := by decide +kernel
theorem dX5_sitter_14 : decode cX5_sitter 14 = .ok (.tableswitch 97 0 5 #[38, 48, 58, 68, 78, 88], 38) := by decide +kernel
theorem dX5_sitter_52 : decode cX5_sitter 52 = .ok (.aload_n 0, 1) := by decide +kernel
theorem dX5_sitter_53 : decode cX5_sitter 53 = .ok (.getfield 19, 3) := by decide +kernel
theorem dX5_sitter_56 : decode cX5_sitter 56 = .ok (.getfield 136, 3) := by decide +kernel
theorem dX5_sitter_59 : decode cX5_sitter 59 = .ok (.iload_n 1, 1) := by decide +kernel
theorem dX5_sitter_60 : decode cX5_sitter 60 = .ok (.iaload, 1) := by decide +kernel
theorem dX5_sitter_61 : decode cX5_sitter 61 = .ok (.ireturn, 1) := by decide +kernel
theorem dX5_sitter_62 : decode cX5_sitter 62 = .ok (.aload_n 0, 1) := by decide +kernel
theorem dX5_sitter_63 : decode cX5_sitter 63 = .ok (.getfield 19, 3) := by decide +kernel
theorem dX5_sitter_66 : decode cX5_sitter 66 = .ok (.getfield 139, 3) := by decide +kernel
theorem dX5_sitter_69 : decode cX5_sitter 69 = .ok (.iload_n 1, 1) := by decide +kernel
theorem dX5_sitter_70 : decode cX5_sitter 70 = .ok (.iaload, 1) := by decide +kernel
theorem dX5_sitter_71 : decode cX5_sitter 71 = .ok (.ireturn, 1) := by decide +kernel
theorem dX5_sitter_72 : decode cX5_sitter 72 = .ok (.aload_n 0, 1) := by decide +kernel
theorem dX5_sitter_73 : decode cX5_sitter 73 = .ok (.getfield 19, 3) := by decide +kernel
theorem dX5_sitter_76 : decode cX5_sitter 76 = .ok (.getfield 142, 3) := by decide +kernel
theorem dX5_sitter_79 : decode cX5_sitter 79 = .ok (.iload_n 1, 1) := by decide +kernel
theorem dX5_sitter_80 : decode cX5_sitter 80 = .ok (.iaload, 1) := by decide +kernel
theorem dX5_sitter_81 : decode cX5_sitter 81 = .ok (.ireturn, 1) := by decide +kernel
theorem dX5_sitter_82 : decode cX5_sitter 82 = .ok (.aload_n 0, 1) := by decide +kernel
theorem dX5_sitter_83 : decode cX5_sitter 83 = .ok (.getfield 19, 3) := by decide +kernel
theorem dX5_sitter_86 : decode cX5_sitter 86 = .ok (.getfield 145, 3) := by decide +kernel
theorem dX5_sitter_89 : decode cX5_sitter 89 = .ok (.iload_n 1, 1) := by decide +kernel
theorem dX5_sitter_90 : decode cX5_sitter 90 = .ok (.iaload, 1) := by decide +kernel
theorem dX5_sitter_91 : decode cX5_sitter 91 = .ok (.ireturn, 1) := by decide +kernel
theorem dX5_sitter_92 : decode cX5_sitter 92 = .ok (.aload_n 0, 1) := by decide +kernel
theorem dX5_sitter_93 : decode cX5_sitter 93 = .ok (.getfield 19, 3) := by decide +kernel
theorem dX5_sitter_96 : decode cX5_sitter 96 = .ok (.getfield 148, 3) := by decide +kernel
theorem dX5_sitter_99 : decode cX5_sitter 99 = .ok (.iload_n 1, 1) := by decide +kernel
theorem dX5_sitter_100 : decode cX5_sitter 100 = .ok (.iaload, 1) := by decide +kernel
theorem dX5_sitter_101 : decode cX5_sitter 101 = .ok (.ireturn, 1) := by decide +kernel
theorem dX5_sitter_102 : decode cX5_sitter 102 = .ok (.aload_n 0, 1) := by decide +kernel
theorem dX5_sitter_103 : decode cX5_sitter 103 = .ok (.getfield 19, 3) := by decide +kernel
theorem dX5_sitter_106 : decode cX5_sitter 106 = .ok (.iload_n 1, 1) := by decide +kernel
theorem dX5_sitter_107 : decode cX5_sitter 107 = .ok (.invokevirtual 114, 3) := by decide +kernel
theorem dX5_sitter_110 : decode cX5_sitter 110 = .ok (.ireturn, 1) := by decide +kernel
theorem dX5_sitter_111 : decode cX5_sitter 111 = .ok (.iconst (-1), 1) := by decide +kernel
theorem dX5_sitter_112 : decode cX5_sitter 112 = .ok (.ireturn, 1) := by decide +kernel
theorem dX5_bond_0 : decode cX5_bond 0 = .ok (.iload_n 1, 1) := by decide +kernel
theorem dX5_bond_1 : decode cX5_bond 1 = .ok (.iconst 0, 1) := by decide +kernel
theorem dX5_bond_2 : decode cX5_bond 2 = .ok (.aload_n 0, 1) := by decide +kernel
theorem dX5_bond_3 : decode cX5_bond 3 = .ok (.getfield 19, 3) := by decide +kernel
theorem dX5_bond_6 : decode cX5_bond 6 = .ok (.getfield 102, 3) := by decide +kernel
theorem dX5_bond_9 : decode cX5_bond 9 = .ok (.iconst 1, 1) := by decide +kernel
theorem dX5_bond_10 : decode cX5_bond 10 = .ok (.isub, 1) := by decide +kernel
theorem dX5_bond_11 : decode cX5_bond 11 = .ok (.invokestatic 68, 3) := by decide +kernel
theorem dX5_bond_14 : decode cX5_bond 14 = .ok (.ifCond .ne 5, 3) := by decide +kernel
theorem dX5_bond_17 : decode cX5_bond 17 = .ok (.iconst (-1), 1) := by decide +kernel
theorem dX5_bond_18 : decode cX5_bond 18 = .ok (.ireturn, 1) := by decide +kernel
theorem dX5_bond_19 : decode cX5_bond 19 = .ok (.iload_n 2, 1) := by decide +kernel
theorem dX5_bond_20 : decode cX5_bond 20 = .ok (.tableswitch 65 0 2 #[28, 38, 48], 28) := by decide +kernel
theorem dX5_bond_48 : decode cX5_bond 48 = .ok (.aload_n 0, 1) := by decide +kernel
theorem dX5_bond_49 : decode cX5_bond 49 = .ok (.getfield 19, 3) := by decide +kernel
theorem dX5_bond_52 : decode cX5_bond 52 = .ok (.getfield 151, 3) := by decide +kernel
theorem dX5_bond_55 : decode cX5_bond 55 = .ok (.iload_n 1, 1) := by decide +kernel
theorem dX5_bond_56 : decode cX5_bond 56 = .ok (.iaload, 1) := by decide +kernel
theorem dX5_bond_57 : decode cX5_bond 57 = .ok (.ireturn, 1) := by decide +kernel
theorem dX5_bond_58 : decode cX5_bond 58 = .ok (.aload_n 0, 1) := by decide +kernel
theorem dX5_bond_59 : decode cX5_bond 59 = .ok (.getfield 19, 3) := by decide +kernel
theorem dX5_bond_62 : decode cX5_bond 62 = .ok (.getfield 154, 3) := by decide +kernel
theorem dX5_bond_65 : decode cX5_bond 65 = .ok (.iload_n 1, 1) := by decide +kernel
theorem dX5_bond_66 : decode cX5_bond 66 = .ok (.iaload, 1) := by decide +kernel
theorem dX5_bond_67 : decode cX5_bond 67 = .ok (.ireturn, 1) := by decide +kernel
theorem dX5_bond_68 : decode cX5_bond 68 = .ok (.aload_n 0, 1) := by decide +kernel
theorem dX5_bond_69 : decode cX5_bond 69 = .ok (.getfield 19, 3) := by decide +kernel
theorem dX5_bond_72 : decode cX5_bond 72 = .ok (.iload_n 1, 1) := by decide +kernel
theorem dX5_bond_73 : decode cX5_bond 73 = .ok (.invokevirtual 157, 3) := by decide +kernel
theorem dX5_bond_76 : decode cX5_bond 76 = .ok (.ifCond .eq 7, 3) := by decide +kernel
theorem dX5_bond_79 : decode cX5_bond 79 = .ok (.iconst 1, 1) := by decide +kernel
theorem dX5_bond_80 : decode cX5_bond 80 = .ok (.goto 4, 3) := by decide +kernel
theorem dX5_bond_83 : decode cX5_bond 83 = .ok (.iconst 0, 1) := by decide +kernel
theorem dX5_bond_84 : decode cX5_bond 84 = .ok (.ireturn, 1) := by decide +kernel
theorem dX5_bond_85 : decode cX5_bond 85 = .ok (.iconst (-1), 1) := by decide +kernel
theorem dX5_bond_86 : decode cX5_bond 86 = .ok (.ireturn, 1) := by decide +kernel
theorem dX5_forger_0 : decode cX5_forger 0 = .ok (.iload_n 1, 1) := by decide +kernel
theorem dX5_forger_1 : decode cX5_forger 1 = .ok (.iconst 0, 1) := by decide +kernel
theorem dX5_forger_2 : decode cX5_forger 2 = .ok (.aload_n 0, 1) := by decide +kernel
theorem dX5_forger_3 : decode cX5_forger 3 = .ok (.getfield 19, 3) := by decide +kernel
theorem dX5_forger_6 : decode cX5_forger 6 = .ok (.getfield 105, 3) := by decide +kernel
theorem dX5_forger_9 : decode cX5_forger 9 = .ok (.iconst 1, 1) := by decide +kernel
theorem dX5_forger_10 : decode cX5_forger 10 = .ok (.isub, 1) := by decide +kernel
theorem dX5_forger_11 : decode cX5_forger 11 = .ok (.invokestatic 68, 3) := by decide +kernel
theorem dX5_forger_14 : decode cX5_forger 14 = .ok (.ifCond .eq 15, 3) := by decide +kernel
theorem dX5_forger_17 : decode cX5_forger 17 = .ok (.aload_n 0, 1) := by decide +kernel
theorem dX5_forger_18 : decode cX5_forger 18 = .ok (.getfield 19, 3) := by decide +kernel
theorem dX5_forger_21 : decode cX5_forger 21 = .ok (.getfield 160, 3) := by decide +kernel
theorem dX5_forger_24 : decode cX5_forger 24 = .ok (.iload_n 1, 1) := by decide +kernel
theorem dX5_forger_25 : decode cX5_forger 25 = .ok (.iaload, 1) := by decide +kernel
theorem dX5_forger_26 : decode cX5_forger 26 = .ok (.goto 4, 3) := by decide +kernel
theorem dX5_forger_29 : decode cX5_forger 29 = .ok (.iconst (-1), 1) := by decide +kernel
theorem dX5_forger_30 : decode cX5_forger 30 = .ok (.ireturn, 1) := by decide +kernel
theorem dX5_paint_0 : decode cX5_paint 0 = .ok (.aload_n 0, 1) := by decide +kernel
theorem dX5_paint_1 : decode cX5_paint 1 = .ok (.getfield 19, 3) := by decide +kernel
theorem dX5_paint_4 : decode cX5_paint 4 = .ok (.iload_n 1, 1) := by decide +kernel
theorem dX5_paint_5 : decode cX5_paint 5 = .ok (.iload_n 2, 1) := by decide +kernel
theorem dX5_paint_6 : decode cX5_paint 6 = .ok (.invokevirtual 163, 3) := by decide +kernel
theorem dX5_paint_9 : decode cX5_paint 9 = .ok (.ireturn, 1) := by decide +kernel
theorem dX5_scrape_0 : decode cX5_scrape 0 = .ok (.aload_n 0, 1) := by decide +kernel
theorem dX5_scrape_1 : decode cX5_scrape 1 = .ok (.getfield 19, 3) := by decide +kernel
theorem dX5_scrape_4 : decode cX5_scrape 4 = .ok (.iload_n 1, 1) := by decide +kernel
theorem dX5_scrape_5 : decode cX5_scrape 5 = .ok (.invokevirtual 118, 3) := by decide +kernel
theorem dX5_scrape_8 : decode cX5_scrape 8 = .ok (.ifCond .ne 5, 3) := by decide +kernel
theorem dX5_scrape_11 : decode cX5_scrape 11 = .ok (.iconst (-1), 1) := by decide +kernel
theorem dX5_scrape_12 : decode cX5_scrape 12 = .ok (.ireturn, 1) := by decide +kernel
theorem dX5_scrape_13 : decode cX5_scrape 13 = .ok (.aload_n 0, 1) := by decide +kernel
theorem dX5_scrape_14 : decode cX5_scrape 14 = .ok (.getfield 19, 3) := by decide +kernel
theorem dX5_scrape_17 : decode cX5_scrape 17 = .ok (.iload_n 1, 1) := by decide +kernel
theorem dX5_scrape_18 : decode cX5_scrape 18 = .ok (.invokevirtual 127, 3) := by decide +kernel
theorem dX5_scrape_21 : decode cX5_scrape 21 = .ok (.istore_n 2, 1) := by decide +kernel
theorem dX5_scrape_22 : decode cX5_scrape 22 = .ok (.iload_n 2, 1) := by decide +kernel
theorem dX5_scrape_23 : decode cX5_scrape 23 = .ok (.bipush (-4), 2) := by decide +kernel
theorem dX5_scrape_25 : decode cX5_scrape 25 = .ok (.if_icmp .ne 6, 3) := by decide +kernel
theorem dX5_scrape_28 : decode cX5_scrape 28 = .ok (.bipush (-2), 2) := by decide +kernel
theorem dX5_scrape_30 : decode cX5_scrape 30 = .ok (.ireturn, 1) := by decide +kernel
theorem dX5_scrape_31 : decode cX5_scrape 31 = .ok (.aload_n 0, 1) := by decide +kernel
theorem dX5_scrape_32 : decode cX5_scrape 32 = .ok (.getfield 19, 3) := by decide +kernel
theorem dX5_scrape_35 : decode cX5_scrape 35 = .ok (.getfield 124, 3) := by decide +kernel
theorem dX5_scrape_38 : decode cX5_scrape 38 = .ok (.iload_n 1, 1) := by decide +kernel
theorem dX5_scrape_39 : decode cX5_scrape 39 = .ok (.dup2, 1) := by decide +kernel
theorem dX5_scrape_40 : decode cX5_scrape 40 = .ok (.iaload, 1) := by decide +kernel
theorem dX5_scrape_41 : decode cX5_scrape 41 = .ok (.iconst 1, 1) := by decide +kernel
theorem dX5_scrape_42 : decode cX5_scrape 42 = .ok (.isub, 1) := by decide +kernel
theorem dX5_scrape_43 : decode cX5_scrape 43 = .ok (.iastore, 1) := by decide +kernel
theorem dX5_scrape_44 : decode cX5_scrape 44 = .ok (.iload_n 2, 1) := by decide +kernel
theorem dX5_scrape_45 : decode cX5_scrape 45 = .ok (.ireturn, 1) := by decide +kernel
theorem dX5_alter_0 : decode cX5_alter 0 = .ok (.aload_n 0, 1) := by decide +kernel
theorem dX5_alter_1 : decode cX5_alter 1 = .ok (.getfield 19, 3) := by decide +kernel
theorem dX5_alter_4 : decode cX5_alter 4 = .ok (.iload_n 1, 1) := by decide +kernel
theorem dX5_alter_5 : decode cX5_alter 5 = .ok (.invokevirtual 133, 3) := by decide +kernel
theorem dX5_alter_8 : decode cX5_alter 8 = .ok (.ifCond .ne 5, 3) := by decide +kernel
theorem dX5_alter_11 : decode cX5_alter 11 = .ok (.iconst (-1), 1) := by decide +kernel
theorem dX5_alter_12 : decode cX5_alter 12 = .ok (.ireturn, 1) := by decide +kernel
theorem dX5_alter_13 : decode cX5_alter 13 = .ok (.iload_n 2, 1) := by decide +kernel
theorem dX5_alter_14 : decode cX5_alter 14 = .ok (.tableswitch 88 0 3 #[30, 44, 58, 73], 30) := by decide +kernel
theorem dX5_alter_44 : decode cX5_alter 44 = .ok (.aload_n 0, 1) := by decide +kernel
theorem dX5_alter_45 : decode cX5_alter 45 = .ok (.getfield 19, 3) := by decide +kernel
theorem dX5_alter_48 : decode cX5_alter 48 = .ok (.getfield 136, 3) := by decide +kernel
theorem dX5_alter_51 : decode cX5_alter 51 = .ok (.iload_n 1, 1) := by decide +kernel
theorem dX5_alter_52 : decode cX5_alter 52 = .ok (.iload_n 3, 1) := by decide +kernel
theorem dX5_alter_53 : decode cX5_alter 53 = .ok (.iconst 3, 1) := by decide +kernel
theorem dX5_alter_54 : decode cX5_alter 54 = .ok (.invokestatic 167, 3) := by decide +kernel
theorem dX5_alter_57 : decode cX5_alter 57 = .ok (.ireturn, 1) := by decide +kernel
theorem dX5_alter_58 : decode cX5_alter 58 = .ok (.aload_n 0, 1) := by decide +kernel
theorem dX5_alter_59 : decode cX5_alter 59 = .ok (.getfield 19, 3) := by decide +kernel
theorem dX5_alter_62 : decode cX5_alter 62 = .ok (.getfield 139, 3) := by decide +kernel
theorem dX5_alter_65 : decode cX5_alter 65 = .ok (.iload_n 1, 1) := by decide +kernel
theorem dX5_alter_66 : decode cX5_alter 66 = .ok (.iload_n 3, 1) := by decide +kernel
theorem dX5_alter_67 : decode cX5_alter 67 = .ok (.iconst 5, 1) := by decide +kernel
theorem dX5_alter_68 : decode cX5_alter 68 = .ok (.invokestatic 167, 3) := by decide +kernel
theorem dX5_alter_71 : decode cX5_alter 71 = .ok (.ireturn, 1) := by decide +kernel
theorem dX5_alter_72 : decode cX5_alter 72 = .ok (.aload_n 0, 1) := by decide +kernel
theorem dX5_alter_73 : decode cX5_alter 73 = .ok (.getfield 19, 3) := by decide +kernel
theorem dX5_alter_76 : decode cX5_alter 76 = .ok (.getfield 142, 3) := by decide +kernel
theorem dX5_alter_79 : decode cX5_alter 79 = .ok (.iload_n 1, 1) := by decide +kernel
theorem dX5_alter_80 : decode cX5_alter 80 = .ok (.iload_n 3, 1) := by decide +kernel
theorem dX5_alter_81 : decode cX5_alter 81 = .ok (.bipush 9, 2) := by decide +kernel
theorem dX5_alter_83 : decode cX5_alter 83 = .ok (.invokestatic 167, 3) := by decide +kernel
theorem dX5_alter_86 : decode cX5_alter 86 = .ok (.ireturn, 1) := by decide +kernel
theorem dX5_alter_87 : decode cX5_alter 87 = .ok (.aload_n 0, 1) := by decide +kernel
theorem dX5_alter_88 : decode cX5_alter 88 = .ok (.getfield 19, 3) := by decide +kernel
theorem dX5_alter_91 : decode cX5_alter 91 = .ok (.getfield 145, 3) := by decide +kernel
theorem dX5_alter_94 : decode cX5_alter 94 = .ok (.iload_n 1, 1) := by decide +kernel
theorem dX5_alter_95 : decode cX5_alter 95 = .ok (.iload_n 3, 1) := by decide +kernel
theorem dX5_alter_96 : decode cX5_alter 96 = .ok (.bipush 127, 2) := by decide +kernel
theorem dX5_alter_98 : decode cX5_alter 98 = .ok (.invokestatic 167, 3) := by decide +kernel
theorem dX5_alter_101 : decode cX5_alter 101 = .ok (.ireturn, 1) := by decide +kernel
theorem dX5_alter_102 : decode cX5_alter 102 = .ok (.iconst (-1), 1) := by decide +kernel
theorem dX5_alter_103 : decode cX5_alter 103 = .ok (.ireturn, 1) := by decide +kernel
theorem dX5_worth_0 : decode cX5_worth 0 = .ok (.aload_n 0, 1) := by decide +kernel
theorem dX5_worth_1 : decode cX5_worth 1 = .ok (.getfield 19, 3) := by decide +kernel
theorem dX5_worth_4 : decode cX5_worth 4 = .ok (.iload_n 1, 1) := by decide +kernel
theorem dX5_worth_5 : decode cX5_worth 5 = .ok (.invokevirtual 118, 3) := by decide +kernel
theorem dX5_worth_8 : decode cX5_worth 8 = .ok (.ifCond .eq 20, 3) := by decide +kernel
theorem dX5_worth_11 : decode cX5_worth 11 = .ok (.aload_n 0, 1) := by decide +kernel
theorem dX5_worth_12 : decode cX5_worth 12 = .ok (.getfield 19, 3) := by decide +kernel
theorem dX5_worth_15 : decode cX5_worth 15 = .ok (.getfield 121, 3) := by decide +kernel
theorem dX5_worth_18 : decode cX5_worth 18 = .ok (.iload_n 1, 1) := by decide +kernel
theorem dX5_worth_19 : decode cX5_worth 19 = .ok (.iload_n 2, 1) := by decide +kernel
theorem dX5_worth_20 : decode cX5_worth 20 = .ok (.bipush 9, 2) := by decide +kernel
theorem dX5_worth_22 : decode cX5_worth 22 = .ok (.invokestatic 167, 3) := by decide +kernel
theorem dX5_worth_25 : decode cX5_worth 25 = .ok (.goto 4, 3) := by decide +kernel
theorem dX5_worth_28 : decode cX5_worth 28 = .ok (.iconst (-1), 1) := by decide +kernel
theorem dX5_worth_29 : decode cX5_worth 29 = .ok (.ireturn, 1) := by decide +kernel
theorem dX5_like_0 : decode cX5_like 0 = .ok (.aload_n 0, 1) := by decide +kernel
theorem dX5_like_1 : decode cX5_like 1 = .ok (.getfield 19, 3) := by decide +kernel
theorem dX5_like_4 : decode cX5_like 4 = .ok (.iload_n 1, 1) := by decide +kernel
theorem dX5_like_5 : decode cX5_like 5 = .ok (.invokevirtual 133, 3) := by decide +kernel
theorem dX5_like_8 : decode cX5_like 8 = .ok (.ifCond .eq 14, 3) := by decide +kernel
theorem dX5_like_11 : decode cX5_like 11 = .ok (.aload_n 0, 1) := by decide +kernel
theorem dX5_like_12 : decode cX5_like 12 = .ok (.getfield 19, 3) := by decide +kernel
theorem dX5_like_15 : decode cX5_like 15 = .ok (.iload_n 2, 1) := by decide +kernel
theorem dX5_like_16 : decode cX5_like 16 = .ok (.invokevirtual 133, 3) := by decide +kernel
theorem dX5_like_19 : decode cX5_like 19 = .ok (.ifCond .ne 5, 3) := by decide +kernel
theorem dX5_like_22 : decode cX5_like 22 = .ok (.iconst (-1), 1) := by decide +kernel
theorem dX5_like_23 : decode cX5_like 23 = .ok (.ireturn, 1) := by decide +kernel
theorem dX5_like_24 : decode cX5_like 24 = .ok (.aload_n 0, 1) := by decide +kernel
theorem dX5_like_25 : decode cX5_like 25 = .ok (.getfield 19, 3) := by decide +kernel
theorem dX5_like_28 : decode cX5_like 28 = .ok (.iload_n 1, 1) := by decide +kernel
theorem dX5_like_29 : decode cX5_like 29 = .ok (.iload_n 2, 1) := by decide +kernel
theorem dX5_like_30 : decode cX5_like 30 = .ok (.invokevirtual 171, 3) := by decide +kernel
theorem dX5_like_33 : decode cX5_like 33 = .ok (.ifCond .eq 7, 3) := by decide +kernel
theorem dX5_like_36 : decode cX5_like 36 = .ok (.iconst 1, 1) := by decide +kernel
theorem dX5_like_37 : decode cX5_like 37 = .ok (.goto 4, 3) := by decide +kernel
theorem dX5_like_40 : decode cX5_like 40 = .ok (.iconst 0, 1) := by decide +kernel
theorem dX5_like_41 : decode cX5_like 41 = .ok (.ireturn, 1) := by decide +kernel
theorem dX5_go_0 : decode cX5_go 0 = .ok (.iload_n 1, 1) := by decide +kernel
theorem dX5_go_1 : decode cX5_go 1 = .ok (.iconst 0, 1) := by decide +kernel
theorem dX5_go_2 : decode cX5_go 2 = .ok (.bipush 60, 2) := by decide +kernel
theorem dX5_go_4 : decode cX5_go 4 = .ok (.invokestatic 68, 3) := by decide +kernel
theorem dX5_go_7 : decode cX5_go 7 = .ok (.ifCond .ne 5, 3) := by decide +kernel
theorem dX5_go_10 : decode cX5_go 10 = .ok (.iconst (-1), 1) := by decide +kernel
theorem dX5_go_11 : decode cX5_go 11 = .ok (.ireturn, 1) := by decide +kernel
theorem dX5_go_12 : decode cX5_go 12 = .ok (.aload_n 0, 1) := by decide +kernel
theorem dX5_go_13 : decode cX5_go 13 = .ok (.getfield 19, 3) := by decide +kernel
theorem dX5_go_16 : decode cX5_go 16 = .ok (.getfield 108, 3) := by decide +kernel
theorem dX5_go_19 : decode cX5_go 19 = .ok (.iload_n 1, 1) := by decide +kernel
theorem dX5_go_20 : decode cX5_go 20 = .ok (.iadd, 1) := by decide +kernel
theorem dX5_go_21 : decode cX5_go 21 = .ok (.sipush 1000, 3) := by decide +kernel
theorem dX5_go_24 : decode cX5_go 24 = .ok (.if_icmp .lt 6, 3) := by decide +kernel
theorem dX5_go_27 : decode cX5_go 27 = .ok (.bipush (-3), 2) := by decide +kernel
theorem dX5_go_29 : decode cX5_go 29 = .ok (.ireturn, 1) := by decide +kernel
theorem dX5_go_30 : decode cX5_go 30 = .ok (.iconst 0, 1) := by decide +kernel
theorem dX5_go_31 : decode cX5_go 31 = .ok (.istore_n 2, 1) := by decide +kernel
theorem dX5_go_32 : decode cX5_go 32 = .ok (.iconst 0, 1) := by decide +kernel
theorem dX5_go_33 : decode cX5_go 33 = .ok (.istore_n 3, 1) := by decide +kernel
theorem dX5_go_34 : decode cX5_go 34 = .ok (.iload_n 3, 1) := by decide +kernel
theorem dX5_go_35 : decode cX5_go 35 = .ok (.iload_n 1, 1) := by decide +kernel
theorem dX5_go_36 : decode cX5_go 36 = .ok (.if_icmp .ge 19, 3) := by decide +kernel
theorem dX5_go_39 : decode cX5_go 39 = .ok (.iload_n 2, 1) := by decide +kernel
theorem dX5_go_40 : decode cX5_go 40 = .ok (.aload_n 0, 1) := by decide +kernel
theorem dX5_go_41 : decode cX5_go 41 = .ok (.getfield 19, 3) := by decide +kernel
theorem dX5_go_44 : decode cX5_go 44 = .ok (.invokevirtual 175, 3) := by decide +kernel
theorem dX5_go_47 : decode cX5_go 47 = .ok (.iadd, 1) := by decide +kernel
theorem dX5_go_48 : decode cX5_go 48 = .ok (.istore_n 2, 1) := by decide +kernel
theorem dX5_go_49 : decode cX5_go 49 = .ok (.iinc 3 1, 3) := by decide +kernel
theorem dX5_go_52 : decode cX5_go 52 = .ok (.goto (-18), 3) := by decide +kernel
theorem dX5_go_55 : decode cX5_go 55 = .ok (.iload_n 2, 1) := by decide +kernel
theorem dX5_go_56 : decode cX5_go 56 = .ok (.ireturn, 1) := by decide +kernel
theorem dX5_ahead_0 : decode cX5_ahead 0 = .ok (.aload_n 0, 1) := by decide +kernel
theorem dX5_ahead_1 : decode cX5_ahead 1 = .ok (.getfield 19, 3) := by decide +kernel
theorem dX5_ahead_4 : decode cX5_ahead 4 = .ok (.iload_n 1, 1) := by decide +kernel
theorem dX5_ahead_5 : decode cX5_ahead 5 = .ok (.invokevirtual 133, 3) := by decide +kernel
theorem dX5_ahead_8 : decode cX5_ahead 8 = .ok (.ifCond .eq 22, 3) := by decide +kernel
theorem dX5_ahead_11 : decode cX5_ahead 11 = .ok (.iload_n 2, 1) := by decide +kernel
theorem dX5_ahead_12 : decode cX5_ahead 12 = .ok (.iconst 0, 1) := by decide +kernel
theorem dX5_ahead_13 : decode cX5_ahead 13 = .ok (.bipush 60, 2) := by decide +kernel
theorem dX5_ahead_15 : decode cX5_ahead 15 = .ok (.invokestatic 68, 3) := by decide +kernel
theorem dX5_ahead_18 : decode cX5_ahead 18 = .ok (.ifCond .eq 12, 3) := by decide +kernel
theorem dX5_ahead_21 : decode cX5_ahead 21 = .ok (.iload_n 3, 1) := by decide +kernel
theorem dX5_ahead_22 : decode cX5_ahead 22 = .ok (.iconst 0, 1) := by decide +kernel
theorem dX5_ahead_23 : decode cX5_ahead 23 = .ok (.iconst 1, 1) := by decide +kernel
theorem dX5_ahead_24 : decode cX5_ahead 24 = .ok (.invokestatic 68, 3) := by decide +kernel
theorem dX5_ahead_27 : decode cX5_ahead 27 = .ok (.ifCond .ne 5, 3) := by decide +kernel
theorem dX5_ahead_30 : decode cX5_ahead 30 = .ok (.iconst (-1), 1) := by decide +kernel
theorem dX5_ahead_31 : decode cX5_ahead 31 = .ok (.ireturn, 1) := by decide +kernel
theorem dX5_ahead_32 : decode cX5_ahead 32 = .ok (.aload_n 0, 1) := by decide +kernel
theorem dX5_ahead_33 : decode cX5_ahead 33 = .ok (.getfield 23, 3) := by decide +kernel
theorem dX5_ahead_36 : decode cX5_ahead 36 = .ok (.aload_n 0, 1) := by decide +kernel
theorem dX5_ahead_37 : decode cX5_ahead 37 = .ok (.getfield 19, 3) := by decide +kernel
theorem dX5_ahead_40 : decode cX5_ahead 40 = .ok (.invokevirtual 86, 3) := by decide +kernel
theorem dX5_ahead_43 : decode cX5_ahead 43 = .ok (.iconst 0, 1) := by decide +kernel
theorem dX5_ahead_44 : decode cX5_ahead 44 = .ok (.istore 4, 2) := by decide +kernel
theorem dX5_ahead_46 : decode cX5_ahead 46 = .ok (.iload 4, 2) := by decide +kernel
theorem dX5_ahead_48 : decode cX5_ahead 48 = .ok (.iload_n 2, 1) := by decide +kernel
theorem dX5_ahead_49 : decode cX5_ahead 49 = .ok (.if_icmp .ge 17, 3) := by decide +kernel
theorem dX5_ahead_52 : decode cX5_ahead 52 = .ok (.aload_n 0, 1) := by decide +kernel
theorem dX5_ahead_53 : decode cX5_ahead 53 = .ok (.getfield 23, 3) := by decide +kernel
theorem dX5_ahead_56 : decode cX5_ahead 56 = .ok (.invokevirtual 175, 3) := by decide +kernel
theorem dX5_ahead_59 : decode cX5_ahead 59 = .ok (.pop, 1) := by decide +kernel
theorem dX5_ahead_60 : decode cX5_ahead 60 = .ok (.iinc 4 1, 3) := by decide +kernel
theorem dX5_ahead_63 : decode cX5_ahead 63 = .ok (.goto (-17), 3) := by decide +kernel
theorem dX5_ahead_66 : decode cX5_ahead 66 = .ok (.iload_n 3, 1) := by decide +kernel
theorem dX5_ahead_67 : decode cX5_ahead 67 = .ok (.ifCond .ne 25, 3) := by decide +kernel
theorem dX5_ahead_70 : decode cX5_ahead 70 = .ok (.aload_n 0, 1) := by decide +kernel
theorem dX5_ahead_71 : decode cX5_ahead 71 = .ok (.getfield 23, 3) := by decide +kernel
theorem dX5_ahead_74 : decode cX5_ahead 74 = .ok (.getfield 148, 3) := by decide +kernel
theorem dX5_ahead_77 : decode cX5_ahead 77 = .ok (.iload_n 1, 1) := by decide +kernel
theorem dX5_ahead_78 : decode cX5_ahead 78 = .ok (.iaload, 1) := by decide +kernel
theorem dX5_ahead_79 : decode cX5_ahead 79 = .ok (.aload_n 0, 1) := by decide +kernel
theorem dX5_ahead_80 : decode cX5_ahead 80 = .ok (.getfield 19, 3) := by decide +kernel
theorem dX5_ahead_83 : decode cX5_ahead 83 = .ok (.getfield 148, 3) := by decide +kernel
theorem dX5_ahead_86 : decode cX5_ahead 86 = .ok (.iload_n 1, 1) := by decide +kernel
theorem dX5_ahead_87 : decode cX5_ahead 87 = .ok (.iaload, 1) := by decide +kernel
theorem dX5_ahead_88 : decode cX5_ahead 88 = .ok (.isub, 1) := by decide +kernel
theorem dX5_ahead_89 : decode cX5_ahead 89 = .ok (.goto 11, 3) := by decide +kernel
theorem dX5_ahead_92 : decode cX5_ahead 92 = .ok (.aload_n 0, 1) := by decide +kernel
theorem dX5_ahead_93 : decode cX5_ahead 93 = .ok (.getfield 23, 3) := by decide +kernel
theorem dX5_ahead_96 : decode cX5_ahead 96 = .ok (.iload_n 1, 1) := by decide +kernel
theorem dX5_ahead_97 : decode cX5_ahead 97 = .ok (.invokevirtual 114, 3) := by decide +kernel
theorem dX5_ahead_100 : decode cX5_ahead 100 = .ok (.ireturn, 1) := by decide +kernel
theorem dX5_when_0 : decode cX5_when 0 = .ok (.aload_n 0, 1) := by decide +kernel
theorem dX5_when_1 : decode cX5_when 1 = .ok (.getfield 19, 3) := by decide +kernel
theorem dX5_when_4 : decode cX5_when 4 = .ok (.iload_n 1, 1) := by decide +kernel
theorem dX5_when_5 : decode cX5_when 5 = .ok (.invokevirtual 118, 3) := by decide +kernel
theorem dX5_when_8 : decode cX5_when 8 = .ok (.ifCond .eq 14, 3) := by decide +kernel
theorem dX5_when_11 : decode cX5_when 11 = .ok (.aload_n 0, 1) := by decide +kernel
theorem dX5_when_12 : decode cX5_when 12 = .ok (.getfield 19, 3) := by decide +kernel
theorem dX5_when_15 : decode cX5_when 15 = .ok (.iload_n 2, 1) := by decide +kernel
theorem dX5_when_16 : decode cX5_when 16 = .ok (.invokevirtual 133, 3) := by decide +kernel
theorem dX5_when_19 : decode cX5_when 19 = .ok (.ifCond .ne 5, 3) := by decide +kernel
theorem dX5_when_22 : decode cX5_when 22 = .ok (.iconst (-1), 1) := by decide +kernel
theorem dX5_when_23 : decode cX5_when 23 = .ok (.ireturn, 1) := by decide +kernel
theorem dX5_when_24 : decode cX5_when 24 = .ok (.aload_n 0, 1) := by decide +kernel
theorem dX5_when_25 : decode cX5_when 25 = .ok (.getfield 23, 3) := by decide +kernel
theorem dX5_when_28 : decode cX5_when 28 = .ok (.aload_n 0, 1) := by decide +kernel
theorem dX5_when_29 : decode cX5_when 29 = .ok (.getfield 19, 3) := by decide +kernel
theorem dX5_when_32 : decode cX5_when 32 = .ok (.invokevirtual 86, 3) := by decide +kernel
theorem dX5_when_35 : decode cX5_when 35 = .ok (.iconst 0, 1) := by decide +kernel
theorem dX5_when_36 : decode cX5_when 36 = .ok (.istore_n 3, 1) := by decide +kernel
theorem dX5_when_37 : decode cX5_when 37 = .ok (.iload_n 3, 1) := by decide +kernel
theorem dX5_when_38 : decode cX5_when 38 = .ok (.bipush 60, 2) := by decide +kernel
theorem dX5_when_40 : decode cX5_when 40 = .ok (.if_icmp .gt 31, 3) := by decide +kernel
theorem dX5_when_43 : decode cX5_when 43 = .ok (.aload_n 0, 1) := by decide +kernel
theorem dX5_when_44 : decode cX5_when 44 = .ok (.getfield 23, 3) := by decide +kernel
theorem dX5_when_47 : decode cX5_when 47 = .ok (.iload_n 1, 1) := by decide +kernel
theorem dX5_when_48 : decode cX5_when 48 = .ok (.invokevirtual 127, 3) := by decide +kernel
theorem dX5_when_51 : decode cX5_when 51 = .ok (.iload_n 2, 1) := by decide +kernel
theorem dX5_when_52 : decode cX5_when 52 = .ok (.if_icmp .ne 5, 3) := by decide +kernel
theorem dX5_when_55 : decode cX5_when 55 = .ok (.iload_n 3, 1) := by decide +kernel
theorem dX5_when_56 : decode cX5_when 56 = .ok (.ireturn, 1) := by decide +kernel
theorem dX5_when_57 : decode cX5_when 57 = .ok (.aload_n 0, 1) := by decide +kernel
theorem dX5_when_58 : decode cX5_when 58 = .ok (.getfield 23, 3) := by decide +kernel
theorem dX5_when_61 : decode cX5_when 61 = .ok (.invokevirtual 175, 3) := by decide +kernel
theorem dX5_when_64 : decode cX5_when 64 = .ok (.pop, 1) := by decide +kernel
theorem dX5_when_65 : decode cX5_when 65 = .ok (.iinc 3 1, 3) := by decide +kernel
theorem dX5_when_68 : decode cX5_when 68 = .ok (.goto (-31), 3) := by decide +kernel
theorem dX5_when_71 : decode cX5_when 71 = .ok (.bipush (-4), 2) := by decide +kernel
theorem dX5_when_73 : decode cX5_when 73 = .ok (.ireturn, 1) := by decide +kernel
theorem dX5_even_0 : decode cX5_even 0 = .ok (.aload_n 0, 1) := by decide +kernel
theorem dX5_even_1 : decode cX5_even 1 = .ok (.getfield 19, 3) := by decide +kernel
theorem dX5_even_4 : decode cX5_even 4 = .ok (.getfield 99, 3) := by decide +kernel
theorem dX5_even_7 : decode cX5_even 7 = .ok (.ifCond .ne 6, 3) := by decide +kernel
theorem dX5_even_10 : decode cX5_even 10 = .ok (.bipush (-4), 2) := by decide +kernel
theorem dX5_even_12 : decode cX5_even 12 = .ok (.ireturn, 1) := by decide +kernel
theorem dX5_even_13 : decode cX5_even 13 = .ok (.aload_n 0, 1) := by decide +kernel
theorem dX5_even_14 : decode cX5_even 14 = .ok (.getfield 23, 3) := by decide +kernel
theorem dX5_even_17 : decode cX5_even 17 = .ok (.aload_n 0, 1) := by decide +kernel
theorem dX5_even_18 : decode cX5_even 18 = .ok (.getfield 19, 3) := by decide +kernel
theorem dX5_even_21 : decode cX5_even 21 = .ok (.invokevirtual 86, 3) := by decide +kernel
theorem dX5_even_24 : decode cX5_even 24 = .ok (.aload_n 0, 1) := by decide +kernel
theorem dX5_even_25 : decode cX5_even 25 = .ok (.getfield 56, 3) := by decide +kernel
theorem dX5_even_28 : decode cX5_even 28 = .ok (.iconst 0, 1) := by decide +kernel
theorem dX5_even_29 : decode cX5_even 29 = .ok (.invokestatic 178, 3) := by decide +kernel
theorem dX5_even_32 : decode cX5_even 32 = .ok (.iconst 1, 1) := by decide +kernel
theorem dX5_even_33 : decode cX5_even 33 = .ok (.istore_n 1, 1) := by decide +kernel
theorem dX5_even_34 : decode cX5_even 34 = .ok (.iload_n 1, 1) := by decide +kernel
theorem dX5_even_35 : decode cX5_even 35 = .ok (.bipush 60, 2) := by decide +kernel
theorem dX5_even_37 : decode cX5_even 37 = .ok (.if_icmp .gt 26, 3) := by decide +kernel
theorem dX5_even_40 : decode cX5_even 40 = .ok (.aload_n 0, 1) := by decide +kernel
theorem dX5_even_41 : decode cX5_even 41 = .ok (.getfield 23, 3) := by decide +kernel
theorem dX5_even_44 : decode cX5_even 44 = .ok (.invokevirtual 175, 3) := by decide +kernel
theorem dX5_even_47 : decode cX5_even 47 = .ok (.pop, 1) := by decide +kernel
theorem dX5_even_48 : decode cX5_even 48 = .ok (.aload_n 0, 1) := by decide +kernel
theorem dX5_even_49 : decode cX5_even 49 = .ok (.invokevirtual 184, 3) := by decide +kernel
theorem dX5_even_52 : decode cX5_even 52 = .ok (.ifCond .eq 5, 3) := by decide +kernel
theorem dX5_even_55 : decode cX5_even 55 = .ok (.iload_n 1, 1) := by decide +kernel
theorem dX5_even_56 : decode cX5_even 56 = .ok (.ireturn, 1) := by decide +kernel
theorem dX5_even_57 : decode cX5_even 57 = .ok (.iinc 1 1, 3) := by decide +kernel
theorem dX5_even_60 : decode cX5_even 60 = .ok (.goto (-26), 3) := by decide +kernel
theorem dX5_even_63 : decode cX5_even 63 = .ok (.bipush (-4), 2) := by decide +kernel
theorem dX5_even_65 : decode cX5_even 65 = .ok (.ireturn, 1) := by decide +kernel
theorem dX5_many_0 : decode cX5_many 0 = .ok (.aload_n 0, 1) := by decide +kernel
theorem dX5_many_1 : decode cX5_many 1 = .ok (.getfield 46, 3) := by decide +kernel
theorem dX5_many_4 : decode cX5_many 4 = .ok (.iconst 0, 1) := by decide +kernel
theorem dX5_many_5 : decode cX5_many 5 = .ok (.invokevirtual 188, 3) := by decide +kernel
theorem dX5_many_8 : decode cX5_many 8 = .ok (.aload_n 0, 1) := by decide +kernel
theorem dX5_many_9 : decode cX5_many 9 = .ok (.getfield 46, 3) := by decide +kernel
theorem dX5_many_12 : decode cX5_many 12 = .ok (.invokevirtual 192, 3) := by decide +kernel
theorem dX5_many_15 : decode cX5_many 15 = .ok (.ireturn, 1) := by decide +kernel
theorem dX5_mend_0 : decode cX5_mend 0 = .ok (.iload_n 1, 1) := by decide +kernel
theorem dX5_mend_1 : decode cX5_mend 1 = .ok (.iconst 0, 1) := by decide +kernel
theorem dX5_mend_2 : decode cX5_mend 2 = .ok (.iconst 1, 1) := by decide +kernel
theorem dX5_mend_3 : decode cX5_mend 3 = .ok (.invokestatic 68, 3) := by decide +kernel
theorem dX5_mend_6 : decode cX5_mend 6 = .ok (.ifCond .ne 5, 3) := by decide +kernel
theorem dX5_mend_9 : decode cX5_mend 9 = .ok (.iconst (-1), 1) := by decide +kernel
theorem dX5_mend_10 : decode cX5_mend 10 = .ok (.ireturn, 1) := by decide +kernel
theorem dX5_mend_11 : decode cX5_mend 11 = .ok (.aload_n 0, 1) := by decide +kernel
theorem dX5_mend_12 : decode cX5_mend 12 = .ok (.getfield 46, 3) := by decide +kernel
theorem dX5_mend_15 : decode cX5_mend 15 = .ok (.iconst 0, 1) := by decide +kernel
theorem dX5_mend_16 : decode cX5_mend 16 = .ok (.invokevirtual 188, 3) := by decide +kernel
theorem dX5_mend_19 : decode cX5_mend 19 = .ok (.aload_n 0, 1) := by decide +kernel
theorem dX5_mend_20 : decode cX5_mend 20 = .ok (.getfield 46, 3) := by decide +kernel
theorem dX5_mend_23 : decode cX5_mend 23 = .ok (.invokevirtual 195, 3) := by decide +kernel
theorem dX5_mend_26 : decode cX5_mend 26 = .ok (.aload_n 0, 1) := by decide +kernel
theorem dX5_mend_27 : decode cX5_mend 27 = .ok (.getfield 46, 3) := by decide +kernel
theorem dX5_mend_30 : decode cX5_mend 30 = .ok (.iload_n 1, 1) := by decide +kernel
theorem dX5_mend_31 : decode cX5_mend 31 = .ok (.invokevirtual 198, 3) := by decide +kernel
theorem dX5_mend_34 : decode cX5_mend 34 = .ok (.ireturn, 1) := by decide +kernel
theorem dX5_cheap_0 : decode cX5_cheap 0 = .ok (.iload_n 1, 1) := by decide +kernel
theorem dX5_cheap_1 : decode cX5_cheap 1 = .ok (.iconst 1, 1) := by decide +kernel
theorem dX5_cheap_2 : decode cX5_cheap 2 = .ok (.bipush 6, 2) := by decide +kernel
theorem dX5_cheap_4 : decode cX5_cheap 4 = .ok (.invokestatic 68, 3) := by decide +kernel
theorem dX5_cheap_7 : decode cX5_cheap 7 = .ok (.ifCond .eq 12, 3) := by decide +kernel
theorem dX5_cheap_10 : decode cX5_cheap 10 = .ok (.iload_n 2, 1) := by decide +kernel
theorem dX5_cheap_11 : decode cX5_cheap 11 = .ok (.iconst 0, 1) := by decide +kernel
theorem dX5_cheap_12 : decode cX5_cheap 12 = .ok (.iconst 1, 1) := by decide +kernel
theorem dX5_cheap_13 : decode cX5_cheap 13 = .ok (.invokestatic 68, 3) := by decide +kernel
theorem dX5_cheap_16 : decode cX5_cheap 16 = .ok (.ifCond .ne 5, 3) := by decide +kernel
theorem dX5_cheap_19 : decode cX5_cheap 19 = .ok (.iconst (-1), 1) := by decide +kernel
theorem dX5_cheap_20 : decode cX5_cheap 20 = .ok (.ireturn, 1) := by decide +kernel
theorem dX5_cheap_21 : decode cX5_cheap 21 = .ok (.aload_n 0, 1) := by decide +kernel
theorem dX5_cheap_22 : decode cX5_cheap 22 = .ok (.getfield 46, 3) := by decide +kernel
theorem dX5_cheap_25 : decode cX5_cheap 25 = .ok (.iconst 0, 1) := by decide +kernel
theorem dX5_cheap_26 : decode cX5_cheap 26 = .ok (.invokevirtual 188, 3) := by decide +kernel
theorem dX5_cheap_29 : decode cX5_cheap 29 = .ok (.aload_n 0, 1) := by decide +kernel
theorem dX5_cheap_30 : decode cX5_cheap 30 = .ok (.getfield 46, 3) := by decide +kernel
theorem dX5_cheap_33 : decode cX5_cheap 33 = .ok (.invokevirtual 201, 3) := by decide +kernel
theorem dX5_cheap_36 : decode cX5_cheap 36 = .ok (.aload_n 0, 1) := by decide +kernel
theorem dX5_cheap_37 : decode cX5_cheap 37 = .ok (.getfield 46, 3) := by decide +kernel
theorem dX5_cheap_40 : decode cX5_cheap 40 = .ok (.iload_n 1, 1) := by decide +kernel
theorem dX5_cheap_41 : decode cX5_cheap 41 = .ok (.putfield 204, 3) := by decide +kernel
theorem dX5_cheap_44 : decode cX5_cheap 44 = .ok (.aload_n 0, 1) := by decide +kernel
theorem dX5_cheap_45 : decode cX5_cheap 45 = .ok (.getfield 46, 3) := by decide +kernel
theorem dX5_cheap_48 : decode cX5_cheap 48 = .ok (.iload_n 2, 1) := by decide +kernel
theorem dX5_cheap_49 : decode cX5_cheap 49 = .ok (.invokevirtual 198, 3) := by decide +kernel
theorem dX5_cheap_52 : decode cX5_cheap 52 = .ok (.ireturn, 1) := by decide +kernel
theorem dX5_next_0 : decode cX5_next 0 = .ok (.iload_n 1, 1) := by decide +kernel
theorem dX5_next_1 : decode cX5_next 1 = .ok (.iconst 0, 1) := by decide +kernel
theorem dX5_next_2 : decode cX5_next 2 = .ok (.iconst 1, 1) := by decide +kernel
theorem dX5_next_3 : decode cX5_next 3 = .ok (.invokestatic 68, 3) := by decide +kernel
theorem dX5_next_6 : decode cX5_next 6 = .ok (.ifCond .ne 5, 3) := by decide +kernel
theorem dX5_next_9 : decode cX5_next 9 = .ok (.iconst (-1), 1) := by decide +kernel
theorem dX5_next_10 : decode cX5_next 10 = .ok (.ireturn, 1) := by decide +kernel
theorem dX5_next_11 : decode cX5_next 11 = .ok (.bipush (-4), 2) := by decide +kernel
theorem dX5_next_13 : decode cX5_next 13 = .ok (.istore_n 2, 1) := by decide +kernel
theorem dX5_next_14 : decode cX5_next 14 = .ok (.bipush (-4), 2) := by decide +kernel
theorem dX5_next_16 : decode cX5_next 16 = .ok (.istore_n 3, 1) := by decide +kernel
theorem dX5_next_17 : decode cX5_next 17 = .ok (.iconst 0, 1) := by decide +kernel
theorem dX5_next_18 : decode cX5_next 18 = .ok (.istore 4, 2) := by decide +kernel
theorem dX5_next_20 : decode cX5_next 20 = .ok (.iload 4, 2) := by decide +kernel
theorem dX5_next_22 : decode cX5_next 22 = .ok (.aload_n 0, 1) := by decide +kernel
theorem dX5_next_23 : decode cX5_next 23 = .ok (.getfield 19, 3) := by decide +kernel
theorem dX5_next_26 : decode cX5_next 26 = .ok (.getfield 96, 3) := by decide +kernel
theorem dX5_next_29 : decode cX5_next 29 = .ok (.if_icmp .ge 79, 3) := by decide +kernel
theorem dX5_next_32 : decode cX5_next 32 = .ok (.aload_n 0, 1) := by decide +kernel
theorem dX5_next_33 : decode cX5_next 33 = .ok (.getfield 23, 3) := by decide +kernel
theorem dX5_next_36 : decode cX5_next 36 = .ok (.aload_n 0, 1) := by decide +kernel
theorem dX5_next_37 : decode cX5_next 37 = .ok (.getfield 19, 3) := by decide +kernel
theorem dX5_next_40 : decode cX5_next 40 = .ok (.invokevirtual 86, 3) := by decide +kernel
theorem dX5_next_43 : decode cX5_next 43 = .ok (.iconst 0, 1) := by decide +kernel
theorem dX5_next_44 : decode cX5_next 44 = .ok (.istore 5, 2) := by decide +kernel
theorem dX5_next_46 : decode cX5_next 46 = .ok (.iload 5, 2) := by decide +kernel
theorem dX5_next_48 : decode cX5_next 48 = .ok (.aload_n 0, 1) := by decide +kernel
theorem dX5_next_49 : decode cX5_next 49 = .ok (.getfield 19, 3) := by decide +kernel
theorem dX5_next_52 : decode cX5_next 52 = .ok (.getfield 99, 3) := by decide +kernel
theorem dX5_next_55 : decode cX5_next 55 = .ok (.if_icmp .ge 47, 3) := by decide +kernel
theorem dX5_next_58 : decode cX5_next 58 = .ok (.aload_n 0, 1) := by decide +kernel
theorem dX5_next_59 : decode cX5_next 59 = .ok (.getfield 23, 3) := by decide +kernel
theorem dX5_next_62 : decode cX5_next 62 = .ok (.iload 4, 2) := by decide +kernel
theorem dX5_next_64 : decode cX5_next 64 = .ok (.iload 5, 2) := by decide +kernel
theorem dX5_next_66 : decode cX5_next 66 = .ok (.invokevirtual 207, 3) := by decide +kernel
theorem dX5_next_69 : decode cX5_next 69 = .ok (.aload_n 0, 1) := by decide +kernel
theorem dX5_next_70 : decode cX5_next 70 = .ok (.getfield 23, 3) := by decide +kernel
theorem dX5_next_73 : decode cX5_next 73 = .ok (.invokevirtual 211, 3) := by decide +kernel
theorem dX5_next_76 : decode cX5_next 76 = .ok (.istore 6, 2) := by decide +kernel
theorem dX5_next_78 : decode cX5_next 78 = .ok (.iload 6, 2) := by decide +kernel
theorem dX5_next_80 : decode cX5_next 80 = .ok (.iload_n 2, 1) := by decide +kernel
theorem dX5_next_81 : decode cX5_next 81 = .ok (.if_icmp .le 15, 3) := by decide +kernel
theorem dX5_next_84 : decode cX5_next 84 = .ok (.iload 6, 2) := by decide +kernel
theorem dX5_next_86 : decode cX5_next 86 = .ok (.istore_n 2, 1) := by decide +kernel
theorem dX5_next_87 : decode cX5_next 87 = .ok (.bipush 10, 2) := by decide +kernel
theorem dX5_next_89 : decode cX5_next 89 = .ok (.iload 4, 2) := by decide +kernel
theorem dX5_next_91 : decode cX5_next 91 = .ok (.imul, 1) := by decide +kernel
theorem dX5_next_92 : decode cX5_next 92 = .ok (.iload 5, 2) := by decide +kernel
theorem dX5_next_94 : decode cX5_next 94 = .ok (.iadd, 1) := by decide +kernel
theorem dX5_next_95 : decode cX5_next 95 = .ok (.istore_n 3, 1) := by decide +kernel
theorem dX5_next_96 : decode cX5_next 96 = .ok (.iinc 5 1, 3) := by decide +kernel
theorem dX5_next_99 : decode cX5_next 99 = .ok (.goto (-53), 3) := by decide +kernel
theorem dX5_next_102 : decode cX5_next 102 = .ok (.iinc 4 1, 3) := by decide +kernel
theorem dX5_next_105 : decode cX5_next 105 = .ok (.goto (-85), 3) := by decide +kernel
theorem dX5_next_108 : decode cX5_next 108 = .ok (.iload_n 1, 1) := by decide +kernel
theorem dX5_next_109 : decode cX5_next 109 = .ok (.ifCond .ne 7, 3) := by decide +kernel
theorem dX5_next_112 : decode cX5_next 112 = .ok (.iload_n 3, 1) := by decide +kernel
theorem dX5_next_113 : decode cX5_next 113 = .ok (.goto 4, 3) := by decide +kernel
theorem dX5_next_116 : decode cX5_next 116 = .ok (.iload_n 2, 1) := by decide +kernel
theorem dX5_next_117 : decode cX5_next 117 = .ok (.ireturn, 1) := by decide +kernel
theorem dX5_value_0 : decode cX5_value 0 = .ok (.iload_n 1, 1) := by decide +kernel
theorem dX5_value_1 : decode cX5_value 1 = .ok (.iconst 0, 1) := by decide +kernel
theorem dX5_value_2 : decode cX5_value 2 = .ok (.aload_n 0, 1) := by decide +kernel
theorem dX5_value_3 : decode cX5_value 3 = .ok (.getfield 19, 3) := by decide +kernel
theorem dX5_value_6 : decode cX5_value 6 = .ok (.invokevirtual 214, 3) := by decide +kernel
theorem dX5_value_9 : decode cX5_value 9 = .ok (.invokestatic 68, 3) := by decide +kernel
theorem dX5_value_12 : decode cX5_value 12 = .ok (.ifCond .eq 14, 3) := by decide +kernel
theorem dX5_value_15 : decode cX5_value 15 = .ok (.aload_n 0, 1) := by decide +kernel
theorem dX5_value_16 : decode cX5_value 16 = .ok (.getfield 19, 3) := by decide +kernel
theorem dX5_value_19 : decode cX5_value 19 = .ok (.iload_n 1, 1) := by decide +kernel
theorem dX5_value_20 : decode cX5_value 20 = .ok (.invokevirtual 217, 3) := by decide +kernel
theorem dX5_value_23 : decode cX5_value 23 = .ok (.goto 4, 3) := by decide +kernel
theorem dX5_value_26 : decode cX5_value 26 = .ok (.iconst (-1), 1) := by decide +kernel
theorem dX5_value_27 : decode cX5_value 27 = .ok (.ireturn, 1) := by decide +kernel
theorem dX5_share_0 : decode cX5_share 0 = .ok (.aload_n 0, 1) := by decide +kernel
theorem dX5_share_1 : decode cX5_share 1 = .ok (.getfield 19, 3) := by decide +kernel
theorem dX5_share_4 : decode cX5_share 4 = .ok (.iload_n 1, 1) := by decide +kernel
theorem dX5_share_5 : decode cX5_share 5 = .ok (.invokevirtual 133, 3) := by decide +kernel
theorem dX5_share_8 : decode cX5_share 8 = .ok (.ifCond .eq 12, 3) := by decide +kernel
theorem dX5_share_11 : decode cX5_share 11 = .ok (.iload_n 2, 1) := by decide +kernel
theorem dX5_share_12 : decode cX5_share 12 = .ok (.iconst 0, 1) := by decide +kernel
theorem dX5_share_13 : decode cX5_share 13 = .ok (.iconst 1, 1) := by decide +kernel
theorem dX5_share_14 : decode cX5_share 14 = .ok (.invokestatic 68, 3) := by decide +kernel
theorem dX5_share_17 : decode cX5_share 17 = .ok (.ifCond .ne 7, 3) := by decide +kernel
theorem dX5_share_20 : decode cX5_share 20 = .ok (.ldc2_w 220, 3) := by decide +kernel
theorem dX5_share_23 : decode cX5_share 23 = .ok (.lreturn, 1) := by decide +kernel
theorem dX5_share_24 : decode cX5_share 24 = .ok (.aload_n 0, 1) := by decide +kernel
theorem dX5_share_25 : decode cX5_share 25 = .ok (.getfield 19, 3) := by decide +kernel
theorem dX5_share_28 : decode cX5_share 28 = .ok (.iconst 1, 1) := by decide +kernel
theorem dX5_share_29 : decode cX5_share 29 = .ok (.iload_n 1, 1) := by decide +kernel
theorem dX5_share_30 : decode cX5_share 30 = .ok (.ishl, 1) := by decide +kernel
theorem dX5_share_31 : decode cX5_share 31 = .ok (.invokevirtual 217, 3) := by decide +kernel
theorem dX5_share_34 : decode cX5_share 34 = .ok (.istore_n 3, 1) := by decide +kernel
theorem dX5_share_35 : decode cX5_share 35 = .ok (.aload_n 0, 1) := by decide +kernel
theorem dX5_share_36 : decode cX5_share 36 = .ok (.getfield 19, 3) := by decide +kernel
theorem dX5_share_39 : decode cX5_share 39 = .ok (.aload_n 0, 1) := by decide +kernel
theorem dX5_share_40 : decode cX5_share 40 = .ok (.getfield 19, 3) := by decide +kernel
theorem dX5_share_43 : decode cX5_share 43 = .ok (.invokevirtual 214, 3) := by decide +kernel
theorem dX5_share_46 : decode cX5_share 46 = .ok (.invokevirtual 217, 3) := by decide +kernel
theorem dX5_share_49 : decode cX5_share 49 = .ok (.aload_n 0, 1) := by decide +kernel
theorem dX5_share_50 : decode cX5_share 50 = .ok (.getfield 19, 3) := by decide +kernel
theorem dX5_share_53 : decode cX5_share 53 = .ok (.aload_n 0, 1) := by decide +kernel
theorem dX5_share_54 : decode cX5_share 54 = .ok (.getfield 19, 3) := by decide +kernel
theorem dX5_share_57 : decode cX5_share 57 = .ok (.invokevirtual 214, 3) := by decide +kernel
theorem dX5_share_60 : decode cX5_share 60 = .ok (.iconst 1, 1) := by decide +kernel
theorem dX5_share_61 : decode cX5_share 61 = .ok (.iload_n 1, 1) := by decide +kernel
theorem dX5_share_62 : decode cX5_share 62 = .ok (.ishl, 1) := by decide +kernel
theorem dX5_share_63 : decode cX5_share 63 = .ok (.iconst (-1), 1) := by decide +kernel
theorem dX5_share_64 : decode cX5_share 64 = .ok (.ixor, 1) := by decide +kernel
theorem dX5_share_65 : decode cX5_share 65 = .ok (.iand, 1) := by decide +kernel
theorem dX5_share_66 : decode cX5_share 66 = .ok (.invokevirtual 217, 3) := by decide +kernel
theorem dX5_share_69 : decode cX5_share 69 = .ok (.isub, 1) := by decide +kernel
theorem dX5_share_70 : decode cX5_share 70 = .ok (.istore 4, 2) := by decide +kernel
theorem dX5_share_72 : decode cX5_share 72 = .ok (.iload_n 3, 1) := by decide +kernel
theorem dX5_share_73 : decode cX5_share 73 = .ok (.iload 4, 2) := by decide +kernel
theorem dX5_share_75 : decode cX5_share 75 = .ok (.iadd, 1) := by decide +kernel
theorem dX5_share_76 : decode cX5_share 76 = .ok (.i2l, 1) := by decide +kernel
theorem dX5_share_77 : decode cX5_share 77 = .ok (.ldc2_w 222, 3) := by decide +kernel
theorem dX5_share_80 : decode cX5_share 80 = .ok (.iload_n 2, 1) := by decide +kernel
theorem dX5_share_81 : decode cX5_share 81 = .ok (.invokestatic 224, 3) := by decide +kernel
theorem dX5_share_84 : decode cX5_share 84 = .ok (.lreturn, 1) := by decide +kernel
theorem dX5_looks_0 : decode cX5_looks 0 = .ok (.iload_n 1, 1) := by decide +kernel
theorem dX5_looks_1 : decode cX5_looks 1 = .ok (.iconst 0, 1) := by decide +kernel
theorem dX5_looks_2 : decode cX5_looks 2 = .ok (.iconst 1, 1) := by decide +kernel
theorem dX5_looks_3 : decode cX5_looks 3 = .ok (.invokestatic 68, 3) := by decide +kernel
theorem dX5_looks_6 : decode cX5_looks 6 = .ok (.ifCond .ne 5, 3) := by decide +kernel
theorem dX5_looks_9 : decode cX5_looks 9 = .ok (.iconst (-1), 1) := by decide +kernel
theorem dX5_looks_10 : decode cX5_looks 10 = .ok (.ireturn, 1) := by decide +kernel
theorem dX5_looks_11 : decode cX5_looks 11 = .ok (.bipush (-4), 2) := by decide +kernel
theorem dX5_looks_13 : decode cX5_looks 13 = .ok (.istore_n 2, 1) := by decide +kernel
theorem dX5_looks_14 : decode cX5_looks 14 = .ok (.iconst 0, 1) := by decide +kernel
theorem dX5_looks_15 : decode cX5_looks 15 = .ok (.istore_n 3, 1) := by decide +kernel
theorem dX5_looks_16 : decode cX5_looks 16 = .ok (.iload_n 3, 1) := by decide +kernel
theorem dX5_looks_17 : decode cX5_looks 17 = .ok (.iconst 1, 1) := by decide +kernel
theorem dX5_looks_18 : decode cX5_looks 18 = .ok (.aload_n 0, 1) := by decide +kernel
theorem dX5_looks_19 : decode cX5_looks 19 = .ok (.getfield 19, 3) := by decide +kernel
theorem dX5_looks_22 : decode cX5_looks 22 = .ok (.getfield 96, 3) := by decide +kernel
theorem dX5_looks_25 : decode cX5_looks 25 = .ok (.ishl, 1) := by decide +kernel
theorem dX5_looks_26 : decode cX5_looks 26 = .ok (.if_icmp .ge 51, 3) := by decide +kernel
theorem dX5_looks_29 : decode cX5_looks 29 = .ok (.iload_n 2, 1) := by decide +kernel
theorem dX5_looks_30 : decode cX5_looks 30 = .ok (.bipush (-4), 2) := by decide +kernel
theorem dX5_looks_32 : decode cX5_looks 32 = .ok (.if_icmp .eq 14, 3) := by decide +kernel
theorem dX5_looks_35 : decode cX5_looks 35 = .ok (.iload_n 3, 1) := by decide +kernel
theorem dX5_looks_36 : decode cX5_looks 36 = .ok (.invokestatic 228, 3) := by decide +kernel
theorem dX5_looks_39 : decode cX5_looks 39 = .ok (.iload_n 2, 1) := by decide +kernel
theorem dX5_looks_40 : decode cX5_looks 40 = .ok (.invokestatic 228, 3) := by decide +kernel
theorem dX5_looks_43 : decode cX5_looks 43 = .ok (.if_icmp .ge 7, 3) := by decide +kernel
theorem dX5_looks_46 : decode cX5_looks 46 = .ok (.iconst 1, 1) := by decide +kernel
theorem dX5_looks_47 : decode cX5_looks 47 = .ok (.goto 4, 3) := by decide +kernel
theorem dX5_looks_50 : decode cX5_looks 50 = .ok (.iconst 0, 1) := by decide +kernel
theorem dX5_looks_51 : decode cX5_looks 51 = .ok (.istore 4, 2) := by decide +kernel
theorem dX5_looks_53 : decode cX5_looks 53 = .ok (.iload 4, 2) := by decide +kernel
theorem dX5_looks_55 : decode cX5_looks 55 = .ok (.ifCond .eq 16, 3) := by decide +kernel
theorem dX5_looks_58 : decode cX5_looks 58 = .ok (.aload_n 0, 1) := by decide +kernel
theorem dX5_looks_59 : decode cX5_looks 59 = .ok (.getfield 19, 3) := by decide +kernel
theorem dX5_looks_62 : decode cX5_looks 62 = .ok (.iload_n 3, 1) := by decide +kernel
theorem dX5_looks_63 : decode cX5_looks 63 = .ok (.invokevirtual 233, 3) := by decide +kernel
theorem dX5_looks_66 : decode cX5_looks 66 = .ok (.ifCond .eq 5, 3) := by decide +kernel
theorem dX5_looks_69 : decode cX5_looks 69 = .ok (.iload_n 3, 1) := by decide +kernel
theorem dX5_looks_70 : decode cX5_looks 70 = .ok (.istore_n 2, 1) := by decide +kernel
theorem dX5_looks_71 : decode cX5_looks 71 = .ok (.iinc 3 1, 3) := by decide +kernel
theorem dX5_looks_74 : decode cX5_looks 74 = .ok (.goto (-58), 3) := by decide +kernel
theorem dX5_looks_77 : decode cX5_looks 77 = .ok (.iload_n 2, 1) := by decide +kernel
theorem dX5_looks_78 : decode cX5_looks 78 = .ok (.bipush (-4), 2) := by decide +kernel
theorem dX5_looks_80 : decode cX5_looks 80 = .ok (.if_icmp .eq 8, 3) := by decide +kernel
theorem dX5_looks_83 : decode cX5_looks 83 = .ok (.iload_n 1, 1) := by decide +kernel
theorem dX5_looks_84 : decode cX5_looks 84 = .ok (.iconst 1, 1) := by decide +kernel
theorem dX5_looks_85 : decode cX5_looks 85 = .ok (.if_icmp .ne 7, 3) := by decide +kernel
theorem dX5_looks_88 : decode cX5_looks 88 = .ok (.iload_n 2, 1) := by decide +kernel
theorem dX5_looks_89 : decode cX5_looks 89 = .ok (.goto 7, 3) := by decide +kernel
theorem dX5_looks_92 : decode cX5_looks 92 = .ok (.iload_n 2, 1) := by decide +kernel
theorem dX5_looks_93 : decode cX5_looks 93 = .ok (.invokestatic 228, 3) := by decide +kernel
theorem dX5_looks_96 : decode cX5_looks 96 = .ok (.ireturn, 1) := by decide +kernel
theorem dX5_alive_0 : decode cX5_alive 0 = .ok (.iload_n 1, 1) := by decide +kernel
theorem dX5_alive_1 : decode cX5_alive 1 = .ok (.iconst 0, 1) := by decide +kernel
theorem dX5_alive_2 : decode cX5_alive 2 = .ok (.bipush 10, 2) := by decide +kernel
theorem dX5_alive_4 : decode cX5_alive 4 = .ok (.invokestatic 68, 3) := by decide +kernel
theorem dX5_alive_7 : decode cX5_alive 7 = .ok (.ifCond .eq 12, 3) := by decide +kernel
theorem dX5_alive_10 : decode cX5_alive 10 = .ok (.iload_n 2, 1) := by decide +kernel
theorem dX5_alive_11 : decode cX5_alive 11 = .ok (.iconst 0, 1) := by decide +kernel
theorem dX5_alive_12 : decode cX5_alive 12 = .ok (.iconst 1, 1) := by decide +kernel
theorem dX5_alive_13 : decode cX5_alive 13 = .ok (.invokestatic 68, 3) := by decide +kernel
theorem dX5_alive_16 : decode cX5_alive 16 = .ok (.ifCond .ne 7, 3) := by decide +kernel
theorem dX5_alive_19 : decode cX5_alive 19 = .ok (.ldc2_w 220, 3) := by decide +kernel
theorem dX5_alive_22 : decode cX5_alive 22 = .ok (.lreturn, 1) := by decide +kernel
theorem dX5_alive_23 : decode cX5_alive 23 = .ok (.lconst 1, 1) := by decide +kernel
theorem dX5_alive_24 : decode cX5_alive 24 = .ok (.lstore_n 3, 1) := by decide +kernel
theorem dX5_alive_25 : decode cX5_alive 25 = .ok (.lconst 1, 1) := by decide +kernel
theorem dX5_alive_26 : decode cX5_alive 26 = .ok (.lstore 5, 2) := by decide +kernel
theorem dX5_alive_28 : decode cX5_alive 28 = .ok (.iconst 0, 1) := by decide +kernel
theorem dX5_alive_29 : decode cX5_alive 29 = .ok (.istore 7, 2) := by decide +kernel
theorem dX5_alive_31 : decode cX5_alive 31 = .ok (.iload 7, 2) := by decide +kernel
theorem dX5_alive_33 : decode cX5_alive 33 = .ok (.aload_n 0, 1) := by decide +kernel
theorem dX5_alive_34 : decode cX5_alive 34 = .ok (.getfield 19, 3) := by decide +kernel
theorem dX5_alive_37 : decode cX5_alive 37 = .ok (.getfield 99, 3) := by decide +kernel
theorem dX5_alive_40 : decode cX5_alive 40 = .ok (.if_icmp .ge 37, 3) := by decide +kernel
theorem dX5_alive_43 : decode cX5_alive 43 = .ok (.aload_n 0, 1) := by decide +kernel
theorem dX5_alive_44 : decode cX5_alive 44 = .ok (.getfield 19, 3) := by decide +kernel
theorem dX5_alive_47 : decode cX5_alive 47 = .ok (.iload 7, 2) := by decide +kernel
theorem dX5_alive_49 : decode cX5_alive 49 = .ok (.invokevirtual 114, 3) := by decide +kernel
theorem dX5_alive_52 : decode cX5_alive 52 = .ok (.ifCond .eq 19, 3) := by decide +kernel
theorem dX5_alive_55 : decode cX5_alive 55 = .ok (.lload_n 3, 1) := by decide +kernel
theorem dX5_alive_56 : decode cX5_alive 56 = .ok (.bipush 10, 2) := by decide +kernel
theorem dX5_alive_58 : decode cX5_alive 58 = .ok (.iload_n 1, 1) := by decide +kernel
theorem dX5_alive_59 : decode cX5_alive 59 = .ok (.isub, 1) := by decide +kernel
theorem dX5_alive_60 : decode cX5_alive 60 = .ok (.i2l, 1) := by decide +kernel
theorem dX5_alive_61 : decode cX5_alive 61 = .ok (.lmul, 1) := by decide +kernel
theorem dX5_alive_62 : decode cX5_alive 62 = .ok (.lstore_n 3, 1) := by decide +kernel
theorem dX5_alive_63 : decode cX5_alive 63 = .ok (.lload 5, 2) := by decide +kernel
theorem dX5_alive_65 : decode cX5_alive 65 = .ok (.ldc2_w 236, 3) := by decide +kernel
theorem dX5_alive_68 : decode cX5_alive 68 = .ok (.lmul, 1) := by decide +kernel
theorem dX5_alive_69 : decode cX5_alive 69 = .ok (.lstore 5, 2) := by decide +kernel
theorem dX5_alive_71 : decode cX5_alive 71 = .ok (.iinc 7 1, 3) := by decide +kernel
theorem dX5_alive_74 : decode cX5_alive 74 = .ok (.goto (-43), 3) := by decide +kernel
theorem dX5_alive_77 : decode cX5_alive 77 = .ok (.lload_n 3, 1) := by decide +kernel
theorem dX5_alive_78 : decode cX5_alive 78 = .ok (.lload 5, 2) := by decide +kernel
theorem dX5_alive_80 : decode cX5_alive 80 = .ok (.iload_n 2, 1) := by decide +kernel
theorem dX5_alive_81 : decode cX5_alive 81 = .ok (.invokestatic 224, 3) := by decide +kernel
theorem dX5_alive_84 : decode cX5_alive 84 = .ok (.lreturn, 1) := by decide +kernel
theorem dX5_mean_0 : decode cX5_mean 0 = .ok (.iload_n 1, 1) := by decide +kernel
theorem dX5_mean_1 : decode cX5_mean 1 = .ok (.iconst 0, 1) := by decide +kernel
theorem dX5_mean_2 : decode cX5_mean 2 = .ok (.bipush 10, 2) := by decide +kernel
theorem dX5_mean_4 : decode cX5_mean 4 = .ok (.invokestatic 68, 3) := by decide +kernel
theorem dX5_mean_7 : decode cX5_mean 7 = .ok (.ifCond .eq 12, 3) := by decide +kernel
theorem dX5_mean_10 : decode cX5_mean 10 = .ok (.iload_n 2, 1) := by decide +kernel
theorem dX5_mean_11 : decode cX5_mean 11 = .ok (.iconst 0, 1) := by decide +kernel
theorem dX5_mean_12 : decode cX5_mean 12 = .ok (.iconst 1, 1) := by decide +kernel
theorem dX5_mean_13 : decode cX5_mean 13 = .ok (.invokestatic 68, 3) := by decide +kernel
theorem dX5_mean_16 : decode cX5_mean 16 = .ok (.ifCond .ne 7, 3) := by decide +kernel
theorem dX5_mean_19 : decode cX5_mean 19 = .ok (.ldc2_w 220, 3) := by decide +kernel
theorem dX5_mean_22 : decode cX5_mean 22 = .ok (.lreturn, 1) := by decide +kernel
theorem dX5_mean_23 : decode cX5_mean 23 = .ok (.iconst 0, 1) := by decide +kernel
theorem dX5_mean_24 : decode cX5_mean 24 = .ok (.istore_n 3, 1) := by decide +kernel
theorem dX5_mean_25 : decode cX5_mean 25 = .ok (.iconst 0, 1) := by decide +kernel
theorem dX5_mean_26 : decode cX5_mean 26 = .ok (.istore 4, 2) := by decide +kernel
theorem dX5_mean_28 : decode cX5_mean 28 = .ok (.iload 4, 2) := by decide +kernel
theorem dX5_mean_30 : decode cX5_mean 30 = .ok (.aload_n 0, 1) := by decide +kernel
theorem dX5_mean_31 : decode cX5_mean 31 = .ok (.getfield 19, 3) := by decide +kernel
theorem dX5_mean_34 : decode cX5_mean 34 = .ok (.getfield 99, 3) := by decide +kernel
theorem dX5_mean_37 : decode cX5_mean 37 = .ok (.if_icmp .ge 23, 3) := by decide +kernel
theorem dX5_mean_40 : decode cX5_mean 40 = .ok (.iload_n 3, 1) := by decide +kernel
theorem dX5_mean_41 : decode cX5_mean 41 = .ok (.aload_n 0, 1) := by decide +kernel
theorem dX5_mean_42 : decode cX5_mean 42 = .ok (.getfield 19, 3) := by decide +kernel
theorem dX5_mean_45 : decode cX5_mean 45 = .ok (.iconst 1, 1) := by decide +kernel
theorem dX5_mean_46 : decode cX5_mean 46 = .ok (.iload 4, 2) := by decide +kernel
theorem dX5_mean_48 : decode cX5_mean 48 = .ok (.ishl, 1) := by decide +kernel
theorem dX5_mean_49 : decode cX5_mean 49 = .ok (.invokevirtual 217, 3) := by decide +kernel
theorem dX5_mean_52 : decode cX5_mean 52 = .ok (.iadd, 1) := by decide +kernel
theorem dX5_mean_53 : decode cX5_mean 53 = .ok (.istore_n 3, 1) := by decide +kernel
theorem dX5_mean_54 : decode cX5_mean 54 = .ok (.iinc 4 1, 3) := by decide +kernel
theorem dX5_mean_57 : decode cX5_mean 57 = .ok (.goto (-29), 3) := by decide +kernel
theorem dX5_mean_60 : decode cX5_mean 60 = .ok (.aload_n 0, 1) := by decide +kernel
theorem dX5_mean_61 : decode cX5_mean 61 = .ok (.getfield 19, 3) := by decide +kernel
theorem dX5_mean_64 : decode cX5_mean 64 = .ok (.aload_n 0, 1) := by decide +kernel
theorem dX5_mean_65 : decode cX5_mean 65 = .ok (.getfield 19, 3) := by decide +kernel
theorem dX5_mean_68 : decode cX5_mean 68 = .ok (.invokevirtual 214, 3) := by decide +kernel
theorem dX5_mean_71 : decode cX5_mean 71 = .ok (.invokevirtual 217, 3) := by decide +kernel
theorem dX5_mean_74 : decode cX5_mean 74 = .ok (.iload_n 3, 1) := by decide +kernel
theorem dX5_mean_75 : decode cX5_mean 75 = .ok (.isub, 1) := by decide +kernel
theorem dX5_mean_76 : decode cX5_mean 76 = .ok (.istore 4, 2) := by decide +kernel
theorem dX5_mean_78 : decode cX5_mean 78 = .ok (.bipush 10, 2) := by decide +kernel
theorem dX5_mean_80 : decode cX5_mean 80 = .ok (.iload_n 1, 1) := by decide +kernel
theorem dX5_mean_81 : decode cX5_mean 81 = .ok (.isub, 1) := by decide +kernel
theorem dX5_mean_82 : decode cX5_mean 82 = .ok (.i2l, 1) := by decide +kernel
theorem dX5_mean_83 : decode cX5_mean 83 = .ok (.lstore 5, 2) := by decide +kernel
theorem dX5_mean_85 : decode cX5_mean 85 = .ok (.ldc2_w 236, 3) := by decide +kernel
theorem dX5_mean_88 : decode cX5_mean 88 = .ok (.lload 5, 2) := by decide +kernel
theorem dX5_mean_90 : decode cX5_mean 90 = .ok (.lmul, 1) := by decide +kernel
theorem dX5_mean_91 : decode cX5_mean 91 = .ok (.iload_n 3, 1) := by decide +kernel
theorem dX5_mean_92 : decode cX5_mean 92 = .ok (.i2l, 1) := by decide +kernel
theorem dX5_mean_93 : decode cX5_mean 93 = .ok (.lmul, 1) := by decide +kernel
theorem dX5_mean_94 : decode cX5_mean 94 = .ok (.lload 5, 2) := by decide +kernel
theorem dX5_mean_96 : decode cX5_mean 96 = .ok (.lload 5, 2) := by decide +kernel
theorem dX5_mean_98 : decode cX5_mean 98 = .ok (.lmul, 1) := by decide +kernel
theorem dX5_mean_99 : decode cX5_mean 99 = .ok (.iload 4, 2) := by decide +kernel
theorem dX5_mean_101 : decode cX5_mean 101 = .ok (.i2l, 1) := by decide +kernel
theorem dX5_mean_102 : decode cX5_mean 102 = .ok (.lmul, 1) := by decide +kernel
theorem dX5_mean_103 : decode cX5_mean 103 = .ok (.ladd, 1) := by decide +kernel
theorem dX5_mean_104 : decode cX5_mean 104 = .ok (.ldc2_w 238, 3) := by decide +kernel
theorem dX5_mean_107 : decode cX5_mean 107 = .ok (.iload_n 2, 1) := by decide +kernel
theorem dX5_mean_108 : decode cX5_mean 108 = .ok (.invokestatic 224, 3) := by decide +kernel
theorem dX5_mean_111 : decode cX5_mean 111 = .ok (.lreturn, 1) := by decide +kernel
theorem dX5_see_0 : decode cX5_see 0 = .ok (.aload_n 0, 1) := by decide +kernel
theorem dX5_see_1 : decode cX5_see 1 = .ok (.getfield 19, 3) := by decide +kernel
theorem dX5_see_4 : decode cX5_see 4 = .ok (.iload_n 1, 1) := by decide +kernel
theorem dX5_see_5 : decode cX5_see 5 = .ok (.invokevirtual 118, 3) := by decide +kernel
theorem dX5_see_8 : decode cX5_see 8 = .ok (.ifCond .eq 19, 3) := by decide +kernel
theorem dX5_see_11 : decode cX5_see 11 = .ok (.aload_n 0, 1) := by decide +kernel
theorem dX5_see_12 : decode cX5_see 12 = .ok (.getfield 19, 3) := by decide +kernel
theorem dX5_see_15 : decode cX5_see 15 = .ok (.iload_n 2, 1) := by decide +kernel
theorem dX5_see_16 : decode cX5_see 16 = .ok (.invokevirtual 118, 3) := by decide +kernel
theorem dX5_see_19 : decode cX5_see 19 = .ok (.ifCond .eq 8, 3) := by decide +kernel
theorem dX5_see_22 : decode cX5_see 22 = .ok (.iload_n 1, 1) := by decide +kernel
theorem dX5_see_23 : decode cX5_see 23 = .ok (.iload_n 2, 1) := by decide +kernel
theorem dX5_see_24 : decode cX5_see 24 = .ok (.if_icmp .ne 5, 3) := by decide +kernel
theorem dX5_see_27 : decode cX5_see 27 = .ok (.iconst (-1), 1) := by decide +kernel
theorem dX5_see_28 : decode cX5_see 28 = .ok (.ireturn, 1) := by decide +kernel
theorem dX5_see_29 : decode cX5_see 29 = .ok (.aload_n 0, 1) := by decide +kernel
theorem dX5_see_30 : decode cX5_see 30 = .ok (.getfield 37, 3) := by decide +kernel
theorem dX5_see_33 : decode cX5_see 33 = .ok (.iload_n 1, 1) := by decide +kernel
theorem dX5_see_34 : decode cX5_see 34 = .ok (.iload_n 2, 1) := by decide +kernel
theorem dX5_see_35 : decode cX5_see 35 = .ok (.iload_n 3, 1) := by decide +kernel
theorem dX5_see_36 : decode cX5_see 36 = .ok (.invokevirtual 240, 3) := by decide +kernel
theorem dX5_see_39 : decode cX5_see 39 = .ok (.ifCond .eq 13, 3) := by decide +kernel
theorem dX5_see_42 : decode cX5_see 42 = .ok (.aload_n 0, 1) := by decide +kernel
theorem dX5_see_43 : decode cX5_see 43 = .ok (.getfield 37, 3) := by decide +kernel
theorem dX5_see_46 : decode cX5_see 46 = .ok (.getfield 90, 3) := by decide +kernel
theorem dX5_see_49 : decode cX5_see 49 = .ok (.goto 5, 3) := by decide +kernel
theorem dX5_see_52 : decode cX5_see 52 = .ok (.bipush (-3), 2) := by decide +kernel
theorem dX5_see_54 : decode cX5_see 54 = .ok (.ireturn, 1) := by decide +kernel
theorem dX5_forget_0 : decode cX5_forget 0 = .ok (.iload_n 1, 1) := by decide +kernel
theorem dX5_forget_1 : decode cX5_forget 1 = .ok (.iconst 0, 1) := by decide +kernel
theorem dX5_forget_2 : decode cX5_forget 2 = .ok (.aload_n 0, 1) := by decide +kernel
theorem dX5_forget_3 : decode cX5_forget 3 = .ok (.getfield 37, 3) := by decide +kernel
theorem dX5_forget_6 : decode cX5_forget 6 = .ok (.getfield 90, 3) := by decide +kernel
theorem dX5_forget_9 : decode cX5_forget 9 = .ok (.invokestatic 68, 3) := by decide +kernel
theorem dX5_forget_12 : decode cX5_forget 12 = .ok (.ifCond .ne 5, 3) := by decide +kernel
theorem dX5_forget_15 : decode cX5_forget 15 = .ok (.iconst (-1), 1) := by decide +kernel
theorem dX5_forget_16 : decode cX5_forget 16 = .ok (.ireturn, 1) := by decide +kernel
theorem dX5_forget_17 : decode cX5_forget 17 = .ok (.aload_n 0, 1) := by decide +kernel
theorem dX5_forget_18 : decode cX5_forget 18 = .ok (.getfield 37, 3) := by decide +kernel
theorem dX5_forget_21 : decode cX5_forget 21 = .ok (.getfield 90, 3) := by decide +kernel
theorem dX5_forget_24 : decode cX5_forget 24 = .ok (.istore_n 2, 1) := by decide +kernel
theorem dX5_forget_25 : decode cX5_forget 25 = .ok (.aload_n 0, 1) := by decide +kernel
theorem dX5_forget_26 : decode cX5_forget 26 = .ok (.getfield 37, 3) := by decide +kernel
theorem dX5_forget_29 : decode cX5_forget 29 = .ok (.iload_n 1, 1) := by decide +kernel
theorem dX5_forget_30 : decode cX5_forget 30 = .ok (.putfield 90, 3) := by decide +kernel
theorem dX5_forget_33 : decode cX5_forget 33 = .ok (.iload_n 2, 1) := by decide +kernel
theorem dX5_forget_34 : decode cX5_forget 34 = .ok (.ireturn, 1) := by decide +kernel
theorem dX5_fits_0 : decode cX5_fits 0 = .ok (.iload_n 1, 1) := by decide +kernel
theorem dX5_fits_1 : decode cX5_fits 1 = .ok (.iconst 0, 1) := by decide +kernel
theorem dX5_fits_2 : decode cX5_fits 2 = .ok (.iconst 1, 1) := by decide +kernel
theorem dX5_fits_3 : decode cX5_fits 3 = .ok (.invokestatic 68, 3) := by decide +kernel
theorem dX5_fits_6 : decode cX5_fits 6 = .ok (.ifCond .ne 5, 3) := by decide +kernel
theorem dX5_fits_9 : decode cX5_fits 9 = .ok (.iconst (-1), 1) := by decide +kernel
theorem dX5_fits_10 : decode cX5_fits 10 = .ok (.ireturn, 1) := by decide +kernel
theorem dX5_fits_11 : decode cX5_fits 11 = .ok (.aload_n 0, 1) := by decide +kernel
theorem dX5_fits_12 : decode cX5_fits 12 = .ok (.getfield 46, 3) := by decide +kernel
theorem dX5_fits_15 : decode cX5_fits 15 = .ok (.iconst 1, 1) := by decide +kernel
theorem dX5_fits_16 : decode cX5_fits 16 = .ok (.invokevirtual 188, 3) := by decide +kernel
theorem dX5_fits_19 : decode cX5_fits 19 = .ok (.iload_n 1, 1) := by decide +kernel
theorem dX5_fits_20 : decode cX5_fits 20 = .ok (.ifCond .ne 11, 3) := by decide +kernel
theorem dX5_fits_23 : decode cX5_fits 23 = .ok (.aload_n 0, 1) := by decide +kernel
theorem dX5_fits_24 : decode cX5_fits 24 = .ok (.getfield 46, 3) := by decide +kernel
theorem dX5_fits_27 : decode cX5_fits 27 = .ok (.invokevirtual 192, 3) := by decide +kernel
theorem dX5_fits_30 : decode cX5_fits 30 = .ok (.ireturn, 1) := by decide +kernel
theorem dX5_fits_31 : decode cX5_fits 31 = .ok (.aload_n 0, 1) := by decide +kernel
theorem dX5_fits_32 : decode cX5_fits 32 = .ok (.getfield 46, 3) := by decide +kernel
theorem dX5_fits_35 : decode cX5_fits 35 = .ok (.invokevirtual 244, 3) := by decide +kernel
theorem dX5_fits_38 : decode cX5_fits 38 = .ok (.ifCond .eq 13, 3) := by decide +kernel
theorem dX5_fits_41 : decode cX5_fits 41 = .ok (.aload_n 0, 1) := by decide +kernel
theorem dX5_fits_42 : decode cX5_fits 42 = .ok (.getfield 46, 3) := by decide +kernel
theorem dX5_fits_45 : decode cX5_fits 45 = .ok (.invokevirtual 247, 3) := by decide +kernel
theorem dX5_fits_48 : decode cX5_fits 48 = .ok (.goto 5, 3) := by decide +kernel
theorem dX5_fits_51 : decode cX5_fits 51 = .ok (.bipush (-4), 2) := by decide +kernel
theorem dX5_fits_53 : decode cX5_fits 53 = .ok (.ireturn, 1) := by decide +kernel
theorem dX5_ask_0 : decode cX5_ask 0 = .ok (.iload_n 1, 1) := by decide +kernel
theorem dX5_ask_1 : decode cX5_ask 1 = .ok (.iconst 0, 1) := by decide +kernel
theorem dX5_ask_2 : decode cX5_ask 2 = .ok (.iconst 1, 1) := by decide +kernel
theorem dX5_ask_3 : decode cX5_ask 3 = .ok (.invokestatic 68, 3) := by decide +kernel
theorem dX5_ask_6 : decode cX5_ask 6 = .ok (.ifCond .ne 5, 3) := by decide +kernel
theorem dX5_ask_9 : decode cX5_ask 9 = .ok (.iconst (-1), 1) := by decide +kernel
theorem dX5_ask_10 : decode cX5_ask 10 = .ok (.ireturn, 1) := by decide +kernel
theorem dX5_ask_11 : decode cX5_ask 11 = .ok (.aload_n 0, 1) := by decide +kernel
theorem dX5_ask_12 : decode cX5_ask 12 = .ok (.getfield 46, 3) := by decide +kernel
theorem dX5_ask_15 : decode cX5_ask 15 = .ok (.iconst 1, 1) := by decide +kernel
theorem dX5_ask_16 : decode cX5_ask 16 = .ok (.invokevirtual 188, 3) := by decide +kernel
theorem dX5_ask_19 : decode cX5_ask 19 = .ok (.aload_n 0, 1) := by decide +kernel
theorem dX5_ask_20 : decode cX5_ask 20 = .ok (.getfield 46, 3) := by decide +kernel
theorem dX5_ask_23 : decode cX5_ask 23 = .ok (.aload_n 0, 1) := by decide +kernel
theorem dX5_ask_24 : decode cX5_ask 24 = .ok (.getfield 60, 3) := by decide +kernel
theorem dX5_ask_27 : decode cX5_ask 27 = .ok (.invokevirtual 250, 3) := by decide +kernel
theorem dX5_ask_30 : decode cX5_ask 30 = .ok (.istore_n 2, 1) := by decide +kernel
theorem dX5_ask_31 : decode cX5_ask 31 = .ok (.iload_n 2, 1) := by decide +kernel
theorem dX5_ask_32 : decode cX5_ask 32 = .ok (.istore_n 3, 1) := by decide +kernel
theorem dX5_ask_33 : decode cX5_ask 33 = .ok (.bipush (-4), 2) := by decide +kernel
theorem dX5_ask_35 : decode cX5_ask 35 = .ok (.istore 4, 2) := by decide +kernel
theorem dX5_ask_37 : decode cX5_ask 37 = .ok (.iconst 0, 1) := by decide +kernel
theorem dX5_ask_38 : decode cX5_ask 38 = .ok (.istore 5, 2) := by decide +kernel
theorem dX5_ask_40 : decode cX5_ask 40 = .ok (.iload 5, 2) := by decide +kernel
theorem dX5_ask_42 : decode cX5_ask 42 = .ok (.aload_n 0, 1) := by decide +kernel
theorem dX5_ask_43 : decode cX5_ask 43 = .ok (.getfield 19, 3) := by decide +kernel
theorem dX5_ask_46 : decode cX5_ask 46 = .ok (.getfield 96, 3) := by decide +kernel
theorem dX5_ask_49 : decode cX5_ask 49 = .ok (.if_icmp .ge 78, 3) := by decide +kernel
theorem dX5_ask_52 : decode cX5_ask 52 = .ok (.iload 5, 2) := by decide +kernel
theorem dX5_ask_54 : decode cX5_ask 54 = .ok (.iconst 1, 1) := by decide +kernel
theorem dX5_ask_55 : decode cX5_ask 55 = .ok (.iadd, 1) := by decide +kernel
theorem dX5_ask_56 : decode cX5_ask 56 = .ok (.istore 6, 2) := by decide +kernel
theorem dX5_ask_58 : decode cX5_ask 58 = .ok (.iload 6, 2) := by decide +kernel
theorem dX5_ask_60 : decode cX5_ask 60 = .ok (.aload_n 0, 1) := by decide +kernel
theorem dX5_ask_61 : decode cX5_ask 61 = .ok (.getfield 19, 3) := by decide +kernel
theorem dX5_ask_64 : decode cX5_ask 64 = .ok (.getfield 96, 3) := by decide +kernel
theorem dX5_ask_67 : decode cX5_ask 67 = .ok (.if_icmp .ge 54, 3) := by decide +kernel
theorem dX5_ask_70 : decode cX5_ask 70 = .ok (.aload_n 0, 1) := by decide +kernel
theorem dX5_ask_71 : decode cX5_ask 71 = .ok (.getfield 60, 3) := by decide +kernel
theorem dX5_ask_74 : decode cX5_ask 74 = .ok (.iload 5, 2) := by decide +kernel
theorem dX5_ask_76 : decode cX5_ask 76 = .ok (.bipush 6, 2) := by decide +kernel
theorem dX5_ask_78 : decode cX5_ask 78 = .ok (.imul, 1) := by decide +kernel
theorem dX5_ask_79 : decode cX5_ask 79 = .ok (.iload 6, 2) := by decide +kernel
theorem dX5_ask_81 : decode cX5_ask 81 = .ok (.iadd, 1) := by decide +kernel
theorem dX5_ask_82 : decode cX5_ask 82 = .ok (.iaload, 1) := by decide +kernel
theorem dX5_ask_83 : decode cX5_ask 83 = .ok (.istore 7, 2) := by decide +kernel
theorem dX5_ask_85 : decode cX5_ask 85 = .ok (.iload 7, 2) := by decide +kernel
theorem dX5_ask_87 : decode cX5_ask 87 = .ok (.iload_n 2, 1) := by decide +kernel
theorem dX5_ask_88 : decode cX5_ask 88 = .ok (.iload 7, 2) := by decide +kernel
theorem dX5_ask_90 : decode cX5_ask 90 = .ok (.isub, 1) := by decide +kernel
theorem dX5_ask_91 : decode cX5_ask 91 = .ok (.invokestatic 254, 3) := by decide +kernel
theorem dX5_ask_94 : decode cX5_ask 94 = .ok (.istore 8, 2) := by decide +kernel
theorem dX5_ask_96 : decode cX5_ask 96 = .ok (.iload 8, 2) := by decide +kernel
theorem dX5_ask_98 : decode cX5_ask 98 = .ok (.iload_n 3, 1) := by decide +kernel
theorem dX5_ask_99 : decode cX5_ask 99 = .ok (.if_icmp .ge 16, 3) := by decide +kernel
theorem dX5_ask_102 : decode cX5_ask 102 = .ok (.iload 8, 2) := by decide +kernel
theorem dX5_ask_104 : decode cX5_ask 104 = .ok (.istore_n 3, 1) := by decide +kernel
theorem dX5_ask_105 : decode cX5_ask 105 = .ok (.bipush 10, 2) := by decide +kernel
theorem dX5_ask_107 : decode cX5_ask 107 = .ok (.iload 5, 2) := by decide +kernel
theorem dX5_ask_109 : decode cX5_ask 109 = .ok (.imul, 1) := by decide +kernel
theorem dX5_ask_110 : decode cX5_ask 110 = .ok (.iload 6, 2) := by decide +kernel
theorem dX5_ask_112 : decode cX5_ask 112 = .ok (.iadd, 1) := by decide +kernel
theorem dX5_ask_113 : decode cX5_ask 113 = .ok (.istore 4, 2) := by decide +kernel
theorem dX5_ask_115 : decode cX5_ask 115 = .ok (.iinc 6 1, 3) := by decide +kernel
theorem dX5_ask_118 : decode cX5_ask 118 = .ok (.goto (-60), 3) := by decide +kernel
theorem dX5_ask_121 : decode cX5_ask 121 = .ok (.iinc 5 1, 3) := by decide +kernel
theorem dX5_ask_124 : decode cX5_ask 124 = .ok (.goto (-84), 3) := by decide +kernel
theorem dX5_ask_127 : decode cX5_ask 127 = .ok (.iload 4, 2) := by decide +kernel
theorem dX5_ask_129 : decode cX5_ask 129 = .ok (.bipush (-4), 2) := by decide +kernel
theorem dX5_ask_131 : decode cX5_ask 131 = .ok (.if_icmp .eq 7, 3) := by decide +kernel
theorem dX5_ask_134 : decode cX5_ask 134 = .ok (.iload_n 1, 1) := by decide +kernel
theorem dX5_ask_135 : decode cX5_ask 135 = .ok (.ifCond .ne 8, 3) := by decide +kernel
theorem dX5_ask_138 : decode cX5_ask 138 = .ok (.iload 4, 2) := by decide +kernel
theorem dX5_ask_140 : decode cX5_ask 140 = .ok (.goto 4, 3) := by decide +kernel
theorem dX5_ask_143 : decode cX5_ask 143 = .ok (.iload_n 3, 1) := by decide +kernel
theorem dX5_ask_144 : decode cX5_ask 144 = .ok (.ireturn, 1) := by decide +kernel
theorem dX5_drift_0 : decode cX5_drift 0 = .ok (.iload_n 2, 1) := by decide +kernel
theorem dX5_drift_1 : decode cX5_drift 1 = .ok (.iconst 1, 1) := by decide +kernel
theorem dX5_drift_2 : decode cX5_drift 2 = .ok (.bipush 60, 2) := by decide +kernel
theorem dX5_drift_4 : decode cX5_drift 4 = .ok (.invokestatic 68, 3) := by decide +kernel
theorem dX5_drift_7 : decode cX5_drift 7 = .ok (.ifCond .eq 12, 3) := by decide +kernel
theorem dX5_drift_10 : decode cX5_drift 10 = .ok (.iload_n 3, 1) := by decide +kernel
theorem dX5_drift_11 : decode cX5_drift 11 = .ok (.iconst 0, 1) := by decide +kernel
theorem dX5_drift_12 : decode cX5_drift 12 = .ok (.iconst 1, 1) := by decide +kernel
theorem dX5_drift_13 : decode cX5_drift 13 = .ok (.invokestatic 68, 3) := by decide +kernel
theorem dX5_drift_16 : decode cX5_drift 16 = .ok (.ifCond .ne 5, 3) := by decide +kernel
theorem dX5_drift_19 : decode cX5_drift 19 = .ok (.iconst (-1), 1) := by decide +kernel
theorem dX5_drift_20 : decode cX5_drift 20 = .ok (.ireturn, 1) := by decide +kernel
theorem dX5_drift_21 : decode cX5_drift 21 = .ok (.aload_n 0, 1) := by decide +kernel
theorem dX5_drift_22 : decode cX5_drift 22 = .ok (.getfield 19, 3) := by decide +kernel
theorem dX5_drift_25 : decode cX5_drift 25 = .ok (.getfield 99, 3) := by decide +kernel
theorem dX5_drift_28 : decode cX5_drift 28 = .ok (.ifCond .ne 6, 3) := by decide +kernel
theorem dX5_drift_31 : decode cX5_drift 31 = .ok (.bipush (-2), 2) := by decide +kernel
theorem dX5_drift_33 : decode cX5_drift 33 = .ok (.ireturn, 1) := by decide +kernel
theorem dX5_drift_34 : decode cX5_drift 34 = .ok (.aload_n 0, 1) := by decide +kernel
theorem dX5_drift_35 : decode cX5_drift 35 = .ok (.getfield 23, 3) := by decide +kernel
theorem dX5_drift_38 : decode cX5_drift 38 = .ok (.aload_n 0, 1) := by decide +kernel
theorem dX5_drift_39 : decode cX5_drift 39 = .ok (.getfield 19, 3) := by decide +kernel
theorem dX5_drift_42 : decode cX5_drift 42 = .ok (.invokevirtual 86, 3) := by decide +kernel
theorem dX5_drift_45 : decode cX5_drift 45 = .ok (.iload_n 1, 1) := by decide +kernel
theorem dX5_drift_46 : decode cX5_drift 46 = .ok (.istore 4, 2) := by decide +kernel
theorem dX5_drift_48 : decode cX5_drift 48 = .ok (.iconst 0, 1) := by decide +kernel
theorem dX5_drift_49 : decode cX5_drift 49 = .ok (.istore 5, 2) := by decide +kernel
theorem dX5_drift_51 : decode cX5_drift 51 = .ok (.iload 5, 2) := by decide +kernel
theorem dX5_drift_53 : decode cX5_drift 53 = .ok (.iload_n 2, 1) := by decide +kernel
theorem dX5_drift_54 : decode cX5_drift 54 = .ok (.if_icmp .ge 64, 3) := by decide +kernel
theorem dX5_drift_57 : decode cX5_drift 57 = .ok (.iload 4, 2) := by decide +kernel
theorem dX5_drift_59 : decode cX5_drift 59 = .ok (.invokestatic 259, 3) := by decide +kernel
theorem dX5_drift_62 : decode cX5_drift 62 = .ok (.istore 4, 2) := by decide +kernel
theorem dX5_drift_64 : decode cX5_drift 64 = .ok (.iload 4, 2) := by decide +kernel
theorem dX5_drift_66 : decode cX5_drift 66 = .ok (.invokestatic 262, 3) := by decide +kernel
theorem dX5_drift_69 : decode cX5_drift 69 = .ok (.aload_n 0, 1) := by decide +kernel
theorem dX5_drift_70 : decode cX5_drift 70 = .ok (.getfield 19, 3) := by decide +kernel
theorem dX5_drift_73 : decode cX5_drift 73 = .ok (.getfield 96, 3) := by decide +kernel
theorem dX5_drift_76 : decode cX5_drift 76 = .ok (.invokestatic 265, 3) := by decide +kernel
theorem dX5_drift_79 : decode cX5_drift 79 = .ok (.istore 6, 2) := by decide +kernel
theorem dX5_drift_81 : decode cX5_drift 81 = .ok (.iload 4, 2) := by decide +kernel
theorem dX5_drift_83 : decode cX5_drift 83 = .ok (.invokestatic 259, 3) := by decide +kernel
theorem dX5_drift_86 : decode cX5_drift 86 = .ok (.istore 4, 2) := by decide +kernel
theorem dX5_drift_88 : decode cX5_drift 88 = .ok (.aload_n 0, 1) := by decide +kernel
theorem dX5_drift_89 : decode cX5_drift 89 = .ok (.getfield 23, 3) := by decide +kernel
theorem dX5_drift_92 : decode cX5_drift 92 = .ok (.iload 6, 2) := by decide +kernel
theorem dX5_drift_94 : decode cX5_drift 94 = .ok (.iload 4, 2) := by decide +kernel
theorem dX5_drift_96 : decode cX5_drift 96 = .ok (.invokestatic 262, 3) := by decide +kernel
theorem dX5_drift_99 : decode cX5_drift 99 = .ok (.aload_n 0, 1) := by decide +kernel
theorem dX5_drift_100 : decode cX5_drift 100 = .ok (.getfield 19, 3) := by decide +kernel
theorem dX5_drift_103 : decode cX5_drift 103 = .ok (.getfield 99, 3) := by decide +kernel
theorem dX5_drift_106 : decode cX5_drift 106 = .ok (.invokestatic 265, 3) := by decide +kernel
theorem dX5_drift_109 : decode cX5_drift 109 = .ok (.invokevirtual 207, 3) := by decide +kernel
theorem dX5_drift_112 : decode cX5_drift 112 = .ok (.iinc 5 1, 3) := by decide +kernel
theorem dX5_drift_115 : decode cX5_drift 115 = .ok (.goto (-64), 3) := by decide +kernel
theorem dX5_drift_118 : decode cX5_drift 118 = .ok (.iload_n 3, 1) := by decide +kernel
theorem dX5_drift_119 : decode cX5_drift 119 = .ok (.ifCond .ne 20, 3) := by decide +kernel
theorem dX5_drift_122 : decode cX5_drift 122 = .ok (.aload_n 0, 1) := by decide +kernel
theorem dX5_drift_123 : decode cX5_drift 123 = .ok (.getfield 23, 3) := by decide +kernel
theorem dX5_drift_126 : decode cX5_drift 126 = .ok (.aload_n 0, 1) := by decide +kernel
theorem dX5_drift_127 : decode cX5_drift 127 = .ok (.getfield 23, 3) := by decide +kernel
theorem dX5_drift_130 : decode cX5_drift 130 = .ok (.invokevirtual 214, 3) := by decide +kernel
theorem dX5_drift_133 : decode cX5_drift 133 = .ok (.invokevirtual 217, 3) := by decide +kernel
theorem dX5_drift_136 : decode cX5_drift 136 = .ok (.goto 10, 3) := by decide +kernel
theorem dX5_drift_139 : decode cX5_drift 139 = .ok (.aload_n 0, 1) := by decide +kernel
theorem dX5_drift_140 : decode cX5_drift 140 = .ok (.getfield 23, 3) := by decide +kernel
theorem dX5_drift_143 : decode cX5_drift 143 = .ok (.invokevirtual 211, 3) := by decide +kernel
theorem dX5_drift_146 : decode cX5_drift 146 = .ok (.ireturn, 1) := by decide +kernel
theorem dX5_keep_0 : decode cX5_keep 0 = .ok (.iload_n 1, 1) := by decide +kernel
theorem dX5_keep_1 : decode cX5_keep 1 = .ok (.iconst 0, 1) := by decide +kernel
theorem dX5_keep_2 : decode cX5_keep 2 = .ok (.iconst 1, 1) := by decide +kernel
theorem dX5_keep_3 : decode cX5_keep 3 = .ok (.invokestatic 68, 3) := by decide +kernel
theorem dX5_keep_6 : decode cX5_keep 6 = .ok (.ifCond .ne 5, 3) := by decide +kernel
theorem dX5_keep_9 : decode cX5_keep 9 = .ok (.iconst (-1), 1) := by decide +kernel
theorem dX5_keep_10 : decode cX5_keep 10 = .ok (.ireturn, 1) := by decide +kernel
theorem dX5_keep_11 : decode cX5_keep 11 = .ok (.aload_n 0, 1) := by decide +kernel
theorem dX5_keep_12 : decode cX5_keep 12 = .ok (.getfield 30, 3) := by decide +kernel
theorem dX5_keep_15 : decode cX5_keep 15 = .ok (.iload_n 1, 1) := by decide +kernel
theorem dX5_keep_16 : decode cX5_keep 16 = .ok (.baload, 1) := by decide +kernel
theorem dX5_keep_17 : decode cX5_keep 17 = .ok (.ifCond .eq 7, 3) := by decide +kernel
theorem dX5_keep_20 : decode cX5_keep 20 = .ok (.iconst 1, 1) := by decide +kernel
theorem dX5_keep_21 : decode cX5_keep 21 = .ok (.goto 4, 3) := by decide +kernel
theorem dX5_keep_24 : decode cX5_keep 24 = .ok (.iconst 0, 1) := by decide +kernel
theorem dX5_keep_25 : decode cX5_keep 25 = .ok (.istore_n 2, 1) := by decide +kernel
theorem dX5_keep_26 : decode cX5_keep 26 = .ok (.aload_n 0, 1) := by decide +kernel
theorem dX5_keep_27 : decode cX5_keep 27 = .ok (.getfield 26, 3) := by decide +kernel
theorem dX5_keep_30 : decode cX5_keep 30 = .ok (.iload_n 1, 1) := by decide +kernel
theorem dX5_keep_31 : decode cX5_keep 31 = .ok (.aaload, 1) := by decide +kernel
theorem dX5_keep_32 : decode cX5_keep 32 = .ok (.aload_n 0, 1) := by decide +kernel
theorem dX5_keep_33 : decode cX5_keep 33 = .ok (.getfield 19, 3) := by decide +kernel
theorem dX5_keep_36 : decode cX5_keep 36 = .ok (.invokevirtual 86, 3) := by decide +kernel
theorem dX5_keep_39 : decode cX5_keep 39 = .ok (.aload_n 0, 1) := by decide +kernel
theorem dX5_keep_40 : decode cX5_keep 40 = .ok (.getfield 30, 3) := by decide +kernel
theorem dX5_keep_43 : decode cX5_keep 43 = .ok (.iload_n 1, 1) := by decide +kernel
theorem dX5_keep_44 : decode cX5_keep 44 = .ok (.iconst 1, 1) := by decide +kernel
theorem dX5_keep_45 : decode cX5_keep 45 = .ok (.bastore, 1) := by decide +kernel
theorem dX5_keep_46 : decode cX5_keep 46 = .ok (.iload_n 2, 1) := by decide +kernel
theorem dX5_keep_47 : decode cX5_keep 47 = .ok (.ireturn, 1) := by decide +kernel
theorem dX5_back_0 : decode cX5_back 0 = .ok (.iload_n 1, 1) := by decide +kernel
theorem dX5_back_1 : decode cX5_back 1 = .ok (.iconst 0, 1) := by decide +kernel
theorem dX5_back_2 : decode cX5_back 2 = .ok (.iconst 1, 1) := by decide +kernel
theorem dX5_back_3 : decode cX5_back 3 = .ok (.invokestatic 68, 3) := by decide +kernel
theorem dX5_back_6 : decode cX5_back 6 = .ok (.ifCond .ne 5, 3) := by decide +kernel
theorem dX5_back_9 : decode cX5_back 9 = .ok (.iconst (-1), 1) := by decide +kernel
theorem dX5_back_10 : decode cX5_back 10 = .ok (.ireturn, 1) := by decide +kernel
theorem dX5_back_11 : decode cX5_back 11 = .ok (.aload_n 0, 1) := by decide +kernel
theorem dX5_back_12 : decode cX5_back 12 = .ok (.getfield 30, 3) := by decide +kernel
theorem dX5_back_15 : decode cX5_back 15 = .ok (.iload_n 1, 1) := by decide +kernel
theorem dX5_back_16 : decode cX5_back 16 = .ok (.baload, 1) := by decide +kernel
theorem dX5_back_17 : decode cX5_back 17 = .ok (.ifCond .ne 6, 3) := by decide +kernel
theorem dX5_back_20 : decode cX5_back 20 = .ok (.bipush (-2), 2) := by decide +kernel
theorem dX5_back_22 : decode cX5_back 22 = .ok (.ireturn, 1) := by decide +kernel
theorem dX5_back_23 : decode cX5_back 23 = .ok (.aload_n 0, 1) := by decide +kernel
theorem dX5_back_24 : decode cX5_back 24 = .ok (.getfield 19, 3) := by decide +kernel
theorem dX5_back_27 : decode cX5_back 27 = .ok (.aload_n 0, 1) := by decide +kernel
theorem dX5_back_28 : decode cX5_back 28 = .ok (.getfield 26, 3) := by decide +kernel
theorem dX5_back_31 : decode cX5_back 31 = .ok (.iload_n 1, 1) := by decide +kernel
theorem dX5_back_32 : decode cX5_back 32 = .ok (.aaload, 1) := by decide +kernel
theorem dX5_back_33 : decode cX5_back 33 = .ok (.invokevirtual 86, 3) := by decide +kernel
theorem dX5_back_36 : decode cX5_back 36 = .ok (.aload_n 0, 1) := by decide +kernel
theorem dX5_back_37 : decode cX5_back 37 = .ok (.getfield 19, 3) := by decide +kernel
theorem dX5_back_40 : decode cX5_back 40 = .ok (.getfield 108, 3) := by decide +kernel
theorem dX5_back_43 : decode cX5_back 43 = .ok (.ireturn, 1) := by decide +kernel
theorem dX5_sheet_0 : decode cX5_sheet 0 = .ok (.iload_n 1, 1) := by decide +kernel
theorem dX5_sheet_1 : decode cX5_sheet 1 = .ok (.iconst 0, 1) := by decide +kernel
theorem dX5_sheet_2 : decode cX5_sheet 2 = .ok (.iconst 3, 1) := by decide +kernel
theorem dX5_sheet_3 : decode cX5_sheet 3 = .ok (.invokestatic 68, 3) := by decide +kernel
theorem dX5_sheet_6 : decode cX5_sheet 6 = .ok (.ifCond .eq 18, 3) := by decide +kernel
theorem dX5_sheet_9 : decode cX5_sheet 9 = .ok (.iload_n 2, 1) := by decide +kernel
theorem dX5_sheet_10 : decode cX5_sheet 10 = .ok (.iconst 0, 1) := by decide +kernel
theorem dX5_sheet_11 : decode cX5_sheet 11 = .ok (.iconst 2, 1) := by decide +kernel
theorem dX5_sheet_12 : decode cX5_sheet 12 = .ok (.invokestatic 68, 3) := by decide +kernel
theorem dX5_sheet_15 : decode cX5_sheet 15 = .ok (.ifCond .eq 9, 3) := by decide +kernel
theorem dX5_sheet_18 : decode cX5_sheet 18 = .ok (.iload_n 3, 1) := by decide +kernel
theorem dX5_sheet_19 : decode cX5_sheet 19 = .ok (.bipush 40, 2) := by decide +kernel
theorem dX5_sheet_21 : decode cX5_sheet 21 = .ok (.if_icmp .le 5, 3) := by decide +kernel
theorem dX5_sheet_24 : decode cX5_sheet 24 = .ok (.iconst (-1), 1) := by decide +kernel
theorem dX5_sheet_25 : decode cX5_sheet 25 = .ok (.ireturn, 1) := by decide +kernel
theorem dX5_sheet_26 : decode cX5_sheet 26 = .ok (.iload_n 3, 1) := by decide +kernel
theorem dX5_sheet_27 : decode cX5_sheet 27 = .ok (.ifCond .ge 6, 3) := by decide +kernel
theorem dX5_sheet_30 : decode cX5_sheet 30 = .ok (.bipush (-14), 2) := by decide +kernel
theorem dX5_sheet_32 : decode cX5_sheet 32 = .ok (.ireturn, 1) := by decide +kernel
theorem dX5_sheet_33 : decode cX5_sheet 33 = .ok (.aload_n 0, 1) := by decide +kernel
theorem dX5_sheet_34 : decode cX5_sheet 34 = .ok (.getfield 52, 3) := by decide +kernel
theorem dX5_sheet_37 : decode cX5_sheet 37 = .ok (.iload_n 1, 1) := by decide +kernel
theorem dX5_sheet_38 : decode cX5_sheet 38 = .ok (.aaload, 1) := by decide +kernel
theorem dX5_sheet_39 : decode cX5_sheet 39 = .ok (.iload_n 2, 1) := by decide +kernel
theorem dX5_sheet_40 : decode cX5_sheet 40 = .ok (.iload_n 3, 1) := by decide +kernel
theorem dX5_sheet_41 : decode cX5_sheet 41 = .ok (.invokevirtual 268, 3) := by decide +kernel
theorem dX5_sheet_44 : decode cX5_sheet 44 = .ok (.iconst 1, 1) := by decide +kernel
theorem dX5_sheet_45 : decode cX5_sheet 45 = .ok (.ireturn, 1) := by decide +kernel
theorem dX5_lay_0 : decode cX5_lay 0 = .ok (.iload_n 1, 1) := by decide +kernel
theorem dX5_lay_1 : decode cX5_lay 1 = .ok (.iconst 0, 1) := by decide +kernel
theorem dX5_lay_2 : decode cX5_lay 2 = .ok (.iconst 3, 1) := by decide +kernel
theorem dX5_lay_3 : decode cX5_lay 3 = .ok (.invokestatic 68, 3) := by decide +kernel
theorem dX5_lay_6 : decode cX5_lay 6 = .ok (.ifCond .ne 5, 3) := by decide +kernel
theorem dX5_lay_9 : decode cX5_lay 9 = .ok (.iconst (-1), 1) := by decide +kernel
theorem dX5_lay_10 : decode cX5_lay 10 = .ok (.ireturn, 1) := by decide +kernel
theorem dX5_lay_11 : decode cX5_lay 11 = .ok (.aload_n 0, 1) := by decide +kernel
theorem dX5_lay_12 : decode cX5_lay 12 = .ok (.getfield 52, 3) := by decide +kernel
theorem dX5_lay_15 : decode cX5_lay 15 = .ok (.iload_n 1, 1) := by decide +kernel
theorem dX5_lay_16 : decode cX5_lay 16 = .ok (.aaload, 1) := by decide +kernel
theorem dX5_lay_17 : decode cX5_lay 17 = .ok (.astore 4, 2) := by decide +kernel
theorem dX5_lay_19 : decode cX5_lay 19 = .ok (.aload 4, 2) := by decide +kernel
theorem dX5_lay_21 : decode cX5_lay 21 = .ok (.invokevirtual 271, 3) := by decide +kernel
theorem dX5_lay_24 : decode cX5_lay 24 = .ok (.ifCond .ne 6, 3) := by decide +kernel
theorem dX5_lay_27 : decode cX5_lay 27 = .ok (.bipush (-11), 2) := by decide +kernel
theorem dX5_lay_29 : decode cX5_lay 29 = .ok (.ireturn, 1) := by decide +kernel
theorem dX5_lay_30 : decode cX5_lay 30 = .ok (.aload 4, 2) := by decide +kernel
theorem dX5_lay_32 : decode cX5_lay 32 = .ok (.iload_n 2, 1) := by decide +kernel
theorem dX5_lay_33 : decode cX5_lay 33 = .ok (.invokevirtual 274, 3) := by decide +kernel
theorem dX5_lay_36 : decode cX5_lay 36 = .ok (.ifCond .ne 6, 3) := by decide +kernel
theorem dX5_lay_39 : decode cX5_lay 39 = .ok (.bipush (-12), 2) := by decide +kernel
theorem dX5_lay_41 : decode cX5_lay 41 = .ok (.ireturn, 1) := by decide +kernel
theorem dX5_lay_42 : decode cX5_lay 42 = .ok (.aload 4, 2) := by decide +kernel
theorem dX5_lay_44 : decode cX5_lay 44 = .ok (.iload_n 2, 1) := by decide +kernel
theorem dX5_lay_45 : decode cX5_lay 45 = .ok (.iload_n 3, 1) := by decide +kernel
theorem dX5_lay_46 : decode cX5_lay 46 = .ok (.invokevirtual 277, 3) := by decide +kernel
theorem dX5_lay_49 : decode cX5_lay 49 = .ok (.iconst 1, 1) := by decide +kernel
theorem dX5_lay_50 : decode cX5_lay 50 = .ok (.ireturn, 1) := by decide +kernel
theorem dX5_read_0 : decode cX5_read 0 = .ok (.iload_n 1, 1) := by decide +kernel
theorem dX5_read_1 : decode cX5_read 1 = .ok (.iconst 0, 1) := by decide +kernel
theorem dX5_read_2 : decode cX5_read 2 = .ok (.iconst 3, 1) := by decide +kernel
theorem dX5_read_3 : decode cX5_read 3 = .ok (.invokestatic 68, 3) := by decide +kernel
theorem dX5_read_6 : decode cX5_read 6 = .ok (.ifCond .eq 23, 3) := by decide +kernel
theorem dX5_read_9 : decode cX5_read 9 = .ok (.iload_n 2, 1) := by decide +kernel
theorem dX5_read_10 : decode cX5_read 10 = .ok (.iconst 0, 1) := by decide +kernel
theorem dX5_read_11 : decode cX5_read 11 = .ok (.iconst 2, 1) := by decide +kernel
theorem dX5_read_12 : decode cX5_read 12 = .ok (.invokestatic 68, 3) := by decide +kernel
theorem dX5_read_15 : decode cX5_read 15 = .ok (.ifCond .eq 14, 3) := by decide +kernel
theorem dX5_read_18 : decode cX5_read 18 = .ok (.iload 4, 2) := by decide +kernel
theorem dX5_read_20 : decode cX5_read 20 = .ok (.iconst 0, 1) := by decide +kernel
theorem dX5_read_21 : decode cX5_read 21 = .ok (.bipush 20, 2) := by decide +kernel
theorem dX5_read_23 : decode cX5_read 23 = .ok (.invokestatic 68, 3) := by decide +kernel
theorem dX5_read_26 : decode cX5_read 26 = .ok (.ifCond .ne 5, 3) := by decide +kernel
theorem dX5_read_29 : decode cX5_read 29 = .ok (.iconst (-1), 1) := by decide +kernel
theorem dX5_read_30 : decode cX5_read 30 = .ok (.ireturn, 1) := by decide +kernel
theorem dX5_read_31 : decode cX5_read 31 = .ok (.aload_n 0, 1) := by decide +kernel
theorem dX5_read_32 : decode cX5_read 32 = .ok (.getfield 52, 3) := by decide +kernel
theorem dX5_read_35 : decode cX5_read 35 = .ok (.iload_n 1, 1) := by decide +kernel
theorem dX5_read_36 : decode cX5_read 36 = .ok (.aaload, 1) := by decide +kernel
theorem dX5_read_37 : decode cX5_read 37 = .ok (.astore 5, 2) := by decide +kernel
theorem dX5_read_39 : decode cX5_read 39 = .ok (.iload 4, 2) := by decide +kernel
theorem dX5_read_41 : decode cX5_read 41 = .ok (.ifCond .ne 7, 3) := by decide +kernel
theorem dX5_read_44 : decode cX5_read 44 = .ok (.iconst 0, 1) := by decide +kernel
theorem dX5_read_45 : decode cX5_read 45 = .ok (.goto 9, 3) := by decide +kernel
theorem dX5_read_48 : decode cX5_read 48 = .ok (.aload 5, 2) := by decide +kernel
theorem dX5_read_50 : decode cX5_read 50 = .ok (.iload_n 2, 1) := by decide +kernel
theorem dX5_read_51 : decode cX5_read 51 = .ok (.invokevirtual 280, 3) := by decide +kernel
theorem dX5_read_54 : decode cX5_read 54 = .ok (.istore 6, 2) := by decide +kernel
theorem dX5_read_56 : decode cX5_read 56 = .ok (.iconst 0, 1) := by decide +kernel
theorem dX5_read_57 : decode cX5_read 57 = .ok (.istore 7, 2) := by decide +kernel
theorem dX5_read_59 : decode cX5_read 59 = .ok (.aload_n 0, 1) := by decide +kernel
theorem dX5_read_60 : decode cX5_read 60 = .ok (.getfield 23, 3) := by decide +kernel
theorem dX5_read_63 : decode cX5_read 63 = .ok (.aload_n 0, 1) := by decide +kernel
theorem dX5_read_64 : decode cX5_read 64 = .ok (.getfield 19, 3) := by decide +kernel
theorem dX5_read_67 : decode cX5_read 67 = .ok (.invokevirtual 86, 3) := by decide +kernel
theorem dX5_read_70 : decode cX5_read 70 = .ok (.iconst 0, 1) := by decide +kernel
theorem dX5_read_71 : decode cX5_read 71 = .ok (.istore 8, 2) := by decide +kernel
theorem dX5_read_73 : decode cX5_read 73 = .ok (.iload 8, 2) := by decide +kernel
theorem dX5_read_75 : decode cX5_read 75 = .ok (.iload 4, 2) := by decide +kernel
theorem dX5_read_77 : decode cX5_read 77 = .ok (.if_icmp .ge 87, 3) := by decide +kernel
theorem dX5_read_80 : decode cX5_read 80 = .ok (.iload 6, 2) := by decide +kernel
theorem dX5_read_82 : decode cX5_read 82 = .ok (.ifCond .ne 82, 3) := by decide +kernel
theorem dX5_read_85 : decode cX5_read 85 = .ok (.iload_n 3, 1) := by decide +kernel
theorem dX5_read_86 : decode cX5_read 86 = .ok (.iconst 2, 1) := by decide +kernel
theorem dX5_read_87 : decode cX5_read 87 = .ok (.iload 8, 2) := by decide +kernel
theorem dX5_read_89 : decode cX5_read 89 = .ok (.imul, 1) := by decide +kernel
theorem dX5_read_90 : decode cX5_read 90 = .ok (.iadd, 1) := by decide +kernel
theorem dX5_read_91 : decode cX5_read 91 = .ok (.istore 9, 2) := by decide +kernel
theorem dX5_read_93 : decode cX5_read 93 = .ok (.aload 5, 2) := by decide +kernel
theorem dX5_read_95 : decode cX5_read 95 = .ok (.iload 9, 2) := by decide +kernel
theorem dX5_read_97 : decode cX5_read 97 = .ok (.invokevirtual 274, 3) := by decide +kernel
theorem dX5_read_100 : decode cX5_read 100 = .ok (.ifCond .eq 15, 3) := by decide +kernel
theorem dX5_read_103 : decode cX5_read 103 = .ok (.aload 5, 2) := by decide +kernel
theorem dX5_read_105 : decode cX5_read 105 = .ok (.iload 9, 2) := by decide +kernel
theorem dX5_read_107 : decode cX5_read 107 = .ok (.iconst 1, 1) := by decide +kernel
theorem dX5_read_108 : decode cX5_read 108 = .ok (.iadd, 1) := by decide +kernel
theorem dX5_read_109 : decode cX5_read 109 = .ok (.invokevirtual 274, 3) := by decide +kernel
theorem dX5_read_112 : decode cX5_read 112 = .ok (.ifCond .ne 9, 3) := by decide +kernel
theorem dX5_read_115 : decode cX5_read 115 = .ok (.iconst 2, 1) := by decide +kernel
theorem dX5_read_116 : decode cX5_read 116 = .ok (.istore 6, 2) := by decide +kernel
theorem dX5_read_118 : decode cX5_read 118 = .ok (.goto 40, 3) := by decide +kernel
theorem dX5_read_121 : decode cX5_read 121 = .ok (.aload_n 0, 1) := by decide +kernel
theorem dX5_read_122 : decode cX5_read 122 = .ok (.getfield 23, 3) := by decide +kernel
theorem dX5_read_125 : decode cX5_read 125 = .ok (.aload 5, 2) := by decide +kernel
theorem dX5_read_127 : decode cX5_read 127 = .ok (.getfield 283, 3) := by decide +kernel
theorem dX5_read_130 : decode cX5_read 130 = .ok (.iload 9, 2) := by decide +kernel
theorem dX5_read_132 : decode cX5_read 132 = .ok (.iaload, 1) := by decide +kernel
theorem dX5_read_133 : decode cX5_read 133 = .ok (.aload 5, 2) := by decide +kernel
theorem dX5_read_135 : decode cX5_read 135 = .ok (.getfield 283, 3) := by decide +kernel
theorem dX5_read_138 : decode cX5_read 138 = .ok (.iload 9, 2) := by decide +kernel
theorem dX5_read_140 : decode cX5_read 140 = .ok (.iconst 1, 1) := by decide +kernel
theorem dX5_read_141 : decode cX5_read 141 = .ok (.iadd, 1) := by decide +kernel
theorem dX5_read_142 : decode cX5_read 142 = .ok (.iaload, 1) := by decide +kernel
theorem dX5_read_143 : decode cX5_read 143 = .ok (.invokevirtual 163, 3) := by decide +kernel
theorem dX5_read_146 : decode cX5_read 146 = .ok (.ifCond .ge 9, 3) := by decide +kernel
theorem dX5_read_149 : decode cX5_read 149 = .ok (.bipush (-20), 2) := by decide +kernel
theorem dX5_read_151 : decode cX5_read 151 = .ok (.iload 8, 2) := by decide +kernel
theorem dX5_read_153 : decode cX5_read 153 = .ok (.isub, 1) := by decide +kernel
theorem dX5_read_154 : decode cX5_read 154 = .ok (.ireturn, 1) := by decide +kernel
theorem dX5_read_155 : decode cX5_read 155 = .ok (.iinc 7 1, 3) := by decide +kernel
theorem dX5_read_158 : decode cX5_read 158 = .ok (.iinc 8 1, 3) := by decide +kernel
theorem dX5_read_161 : decode cX5_read 161 = .ok (.goto (-88), 3) := by decide +kernel
theorem dX5_read_164 : decode cX5_read 164 = .ok (.aload_n 0, 1) := by decide +kernel
theorem dX5_read_165 : decode cX5_read 165 = .ok (.getfield 19, 3) := by decide +kernel
theorem dX5_read_168 : decode cX5_read 168 = .ok (.aload_n 0, 1) := by decide +kernel
theorem dX5_read_169 : decode cX5_read 169 = .ok (.getfield 23, 3) := by decide +kernel
theorem dX5_read_172 : decode cX5_read 172 = .ok (.invokevirtual 86, 3) := by decide +kernel
theorem dX5_read_175 : decode cX5_read 175 = .ok (.aload_n 0, 1) := by decide +kernel
theorem dX5_read_176 : decode cX5_read 176 = .ok (.iload 6, 2) := by decide +kernel
theorem dX5_read_178 : decode cX5_read 178 = .ok (.putfield 63, 3) := by decide +kernel
theorem dX5_read_181 : decode cX5_read 181 = .ok (.iload 7, 2) := by decide +kernel
theorem dX5_read_183 : decode cX5_read 183 = .ok (.ireturn, 1) := by decide +kernel
theorem dX5_torn_0 : decode cX5_torn 0 = .ok (.aload_n 0, 1) := by decide +kernel
theorem dX5_torn_1 : decode cX5_torn 1 = .ok (.getfield 63, 3) := by decide +kernel
theorem dX5_torn_4 : decode cX5_torn 4 = .ok (.ireturn, 1) := by decide +kernel
theorem dX5_count_0 : decode cX5_count 0 = .ok (.iload_n 1, 1) := by decide +kernel
theorem dX5_count_1 : decode cX5_count 1 = .ok (.tableswitch 154 0 6 #[43, 51, 81, 89, 116, 131, 139], 43) := by decide +kernel
theorem dX5_count_44 : decode cX5_count 44 = .ok (.aload_n 0, 1) := by decide +kernel
theorem dX5_count_45 : decode cX5_count 45 = .ok (.getfield 37, 3) := by decide +kernel
theorem dX5_count_48 : decode cX5_count 48 = .ok (.getfield 90, 3) := by decide +kernel
theorem dX5_count_51 : decode cX5_count 51 = .ok (.ireturn, 1) := by decide +kernel
theorem dX5_count_52 : decode cX5_count 52 = .ok (.aload_n 0, 1) := by decide +kernel
theorem dX5_count_53 : decode cX5_count 53 = .ok (.getfield 30, 3) := by decide +kernel
theorem dX5_count_56 : decode cX5_count 56 = .ok (.iconst 0, 1) := by decide +kernel
theorem dX5_count_57 : decode cX5_count 57 = .ok (.baload, 1) := by decide +kernel
theorem dX5_count_58 : decode cX5_count 58 = .ok (.ifCond .eq 7, 3) := by decide +kernel
theorem dX5_count_61 : decode cX5_count 61 = .ok (.iconst 1, 1) := by decide +kernel
theorem dX5_count_62 : decode cX5_count 62 = .ok (.goto 4, 3) := by decide +kernel
theorem dX5_count_65 : decode cX5_count 65 = .ok (.iconst 0, 1) := by decide +kernel
theorem dX5_count_66 : decode cX5_count 66 = .ok (.aload_n 0, 1) := by decide +kernel
theorem dX5_count_67 : decode cX5_count 67 = .ok (.getfield 30, 3) := by decide +kernel
theorem dX5_count_70 : decode cX5_count 70 = .ok (.iconst 1, 1) := by decide +kernel
theorem dX5_count_71 : decode cX5_count 71 = .ok (.baload, 1) := by decide +kernel
theorem dX5_count_72 : decode cX5_count 72 = .ok (.ifCond .eq 7, 3) := by decide +kernel
theorem dX5_count_75 : decode cX5_count 75 = .ok (.iconst 1, 1) := by decide +kernel
theorem dX5_count_76 : decode cX5_count 76 = .ok (.goto 4, 3) := by decide +kernel
theorem dX5_count_79 : decode cX5_count 79 = .ok (.iconst 0, 1) := by decide +kernel
theorem dX5_count_80 : decode cX5_count 80 = .ok (.iadd, 1) := by decide +kernel
theorem dX5_count_81 : decode cX5_count 81 = .ok (.ireturn, 1) := by decide +kernel
theorem dX5_count_82 : decode cX5_count 82 = .ok (.aload_n 0, 1) := by decide +kernel
theorem dX5_count_83 : decode cX5_count 83 = .ok (.getfield 10, 3) := by decide +kernel
theorem dX5_count_86 : decode cX5_count 86 = .ok (.getfield 76, 3) := by decide +kernel
theorem dX5_count_89 : decode cX5_count 89 = .ok (.ireturn, 1) := by decide +kernel
theorem dX5_count_90 : decode cX5_count 90 = .ok (.aload_n 0, 1) := by decide +kernel
theorem dX5_count_91 : decode cX5_count 91 = .ok (.getfield 52, 3) := by decide +kernel
theorem dX5_count_94 : decode cX5_count 94 = .ok (.iconst 0, 1) := by decide +kernel
theorem dX5_count_95 : decode cX5_count 95 = .ok (.aaload, 1) := by decide +kernel
theorem dX5_count_96 : decode cX5_count 96 = .ok (.invokevirtual 271, 3) := by decide +kernel
theorem dX5_count_99 : decode cX5_count 99 = .ok (.ifCond .eq 15, 3) := by decide +kernel
theorem dX5_count_102 : decode cX5_count 102 = .ok (.aload_n 0, 1) := by decide +kernel
theorem dX5_count_103 : decode cX5_count 103 = .ok (.getfield 52, 3) := by decide +kernel
theorem dX5_count_106 : decode cX5_count 106 = .ok (.iconst 0, 1) := by decide +kernel
theorem dX5_count_107 : decode cX5_count 107 = .ok (.aaload, 1) := by decide +kernel
theorem dX5_count_108 : decode cX5_count 108 = .ok (.getfield 286, 3) := by decide +kernel
theorem dX5_count_111 : decode cX5_count 111 = .ok (.goto 5, 3) := by decide +kernel
theorem dX5_count_114 : decode cX5_count 114 = .ok (.bipush (-4), 2) := by decide +kernel
theorem dX5_count_116 : decode cX5_count 116 = .ok (.ireturn, 1) := by decide +kernel
theorem dX5_count_117 : decode cX5_count 117 = .ok (.aload_n 0, 1) := by decide +kernel
theorem dX5_count_118 : decode cX5_count 118 = .ok (.getfield 19, 3) := by decide +kernel
theorem dX5_count_121 : decode cX5_count 121 = .ok (.aload_n 0, 1) := by decide +kernel
theorem dX5_count_122 : decode cX5_count 122 = .ok (.getfield 19, 3) := by decide +kernel
theorem dX5_count_125 : decode cX5_count 125 = .ok (.getfield 124, 3) := by decide +kernel
theorem dX5_count_128 : decode cX5_count 128 = .ok (.invokevirtual 287, 3) := by decide +kernel
theorem dX5_count_131 : decode cX5_count 131 = .ok (.ireturn, 1) := by decide +kernel
theorem dX5_count_132 : decode cX5_count 132 = .ok (.aload_n 0, 1) := by decide +kernel
theorem dX5_count_133 : decode cX5_count 133 = .ok (.getfield 19, 3) := by decide +kernel
theorem dX5_count_136 : decode cX5_count 136 = .ok (.invokevirtual 211, 3) := by decide +kernel
theorem dX5_count_139 : decode cX5_count 139 = .ok (.ireturn, 1) := by decide +kernel
theorem dX5_count_140 : decode cX5_count 140 = .ok (.aload_n 0, 1) := by decide +kernel
theorem dX5_count_141 : decode cX5_count 141 = .ok (.getfield 19, 3) := by decide +kernel
theorem dX5_count_144 : decode cX5_count 144 = .ok (.aload_n 0, 1) := by decide +kernel
theorem dX5_count_145 : decode cX5_count 145 = .ok (.getfield 19, 3) := by decide +kernel
theorem dX5_count_148 : decode cX5_count 148 = .ok (.getfield 121, 3) := by decide +kernel
theorem dX5_count_151 : decode cX5_count 151 = .ok (.invokevirtual 287, 3) := by decide +kernel
theorem dX5_count_154 : decode cX5_count 154 = .ok (.ireturn, 1) := by decide +kernel
theorem dX5_count_155 : decode cX5_count 155 = .ok (.iconst (-1), 1) := by decide +kernel
theorem dX5_count_156 : decode cX5_count 156 = .ok (.ireturn, 1) := by decide +kernel
theorem dX5_within_0 : decode cX5_within 0 = .ok (.iload_n 0, 1) := by decide +kernel
theorem dX5_within_1 : decode cX5_within 1 = .ok (.iload_n 1, 1) := by decide +kernel
theorem dX5_within_2 : decode cX5_within 2 = .ok (.if_icmp .lt 12, 3) := by decide +kernel
theorem dX5_within_5 : decode cX5_within 5 = .ok (.iload_n 0, 1) := by decide +kernel
theorem dX5_within_6 : decode cX5_within 6 = .ok (.iload_n 2, 1) := by decide +kernel
theorem dX5_within_7 : decode cX5_within 7 = .ok (.if_icmp .gt 7, 3) := by decide +kernel
theorem dX5_within_10 : decode cX5_within 10 = .ok (.iconst 1, 1) := by decide +kernel
theorem dX5_within_11 : decode cX5_within 11 = .ok (.goto 4, 3) := by decide +kernel
theorem dX5_within_14 : decode cX5_within 14 = .ok (.iconst 0, 1) := by decide +kernel
theorem dX5_within_15 : decode cX5_within 15 = .ok (.ireturn, 1) := by decide +kernel
theorem dX5_exchange_0 : decode cX5_exchange 0 = .ok (.iload_n 2, 1) := by decide +kernel
theorem dX5_exchange_1 : decode cX5_exchange 1 = .ok (.iconst 0, 1) := by decide +kernel
theorem dX5_exchange_2 : decode cX5_exchange 2 = .ok (.iload_n 3, 1) := by decide +kernel
theorem dX5_exchange_3 : decode cX5_exchange 3 = .ok (.invokestatic 68, 3) := by decide +kernel
theorem dX5_exchange_6 : decode cX5_exchange 6 = .ok (.ifCond .eq 15, 3) := by decide +kernel
theorem dX5_exchange_9 : decode cX5_exchange 9 = .ok (.iload_n 1, 1) := by decide +kernel
theorem dX5_exchange_10 : decode cX5_exchange 10 = .ok (.iconst 0, 1) := by decide +kernel
theorem dX5_exchange_11 : decode cX5_exchange 11 = .ok (.aload_n 0, 1) := by decide +kernel
theorem dX5_exchange_12 : decode cX5_exchange 12 = .ok (.arraylength, 1) := by decide +kernel
theorem dX5_exchange_13 : decode cX5_exchange 13 = .ok (.iconst 1, 1) := by decide +kernel
theorem dX5_exchange_14 : decode cX5_exchange 14 = .ok (.isub, 1) := by decide +kernel
theorem dX5_exchange_15 : decode cX5_exchange 15 = .ok (.invokestatic 68, 3) := by decide +kernel
theorem dX5_exchange_18 : decode cX5_exchange 18 = .ok (.ifCond .ne 5, 3) := by decide +kernel
theorem dX5_exchange_21 : decode cX5_exchange 21 = .ok (.iconst (-1), 1) := by decide +kernel
theorem dX5_exchange_22 : decode cX5_exchange 22 = .ok (.ireturn, 1) := by decide +kernel
theorem dX5_exchange_23 : decode cX5_exchange 23 = .ok (.aload_n 0, 1) := by decide +kernel
theorem dX5_exchange_24 : decode cX5_exchange 24 = .ok (.iload_n 1, 1) := by decide +kernel
theorem dX5_exchange_25 : decode cX5_exchange 25 = .ok (.iaload, 1) := by decide +kernel
theorem dX5_exchange_26 : decode cX5_exchange 26 = .ok (.istore 4, 2) := by decide +kernel
theorem dX5_exchange_28 : decode cX5_exchange 28 = .ok (.aload_n 0, 1) := by decide +kernel
theorem dX5_exchange_29 : decode cX5_exchange 29 = .ok (.iload_n 1, 1) := by decide +kernel
theorem dX5_exchange_30 : decode cX5_exchange 30 = .ok (.iload_n 2, 1) := by decide +kernel
theorem dX5_exchange_31 : decode cX5_exchange 31 = .ok (.iastore, 1) := by decide +kernel
theorem dX5_exchange_32 : decode cX5_exchange 32 = .ok (.iload 4, 2) := by decide +kernel
theorem dX5_exchange_34 : decode cX5_exchange 34 = .ok (.ireturn, 1) := by decide +kernel
theorem dX5_follow_0 : decode cX5_follow 0 = .ok (.iload_n 0, 1) := by decide +kernel
theorem dX5_follow_1 : decode cX5_follow 1 = .ok (.ldc_w 290, 3) := by decide +kernel
theorem dX5_follow_4 : decode cX5_follow 4 = .ok (.imul, 1) := by decide +kernel
theorem dX5_follow_5 : decode cX5_follow 5 = .ok (.sipush 12345, 3) := by decide +kernel
theorem dX5_follow_8 : decode cX5_follow 8 = .ok (.iadd, 1) := by decide +kernel
theorem dX5_follow_9 : decode cX5_follow 9 = .ok (.ireturn, 1) := by decide +kernel
theorem dX5_drawn_0 : decode cX5_drawn 0 = .ok (.iload_n 0, 1) := by decide +kernel
theorem dX5_drawn_1 : decode cX5_drawn 1 = .ok (.bipush 16, 2) := by decide +kernel
theorem dX5_drawn_3 : decode cX5_drawn 3 = .ok (.iushr, 1) := by decide +kernel
theorem dX5_drawn_4 : decode cX5_drawn 4 = .ok (.sipush 32767, 3) := by decide +kernel
theorem dX5_drawn_7 : decode cX5_drawn 7 = .ok (.iand, 1) := by decide +kernel
theorem dX5_drawn_8 : decode cX5_drawn 8 = .ok (.ireturn, 1) := by decide +kernel
theorem dX5_fraction_0 : decode cX5_fraction 0 = .ok (.lload_n 0, 1) := by decide +kernel
theorem dX5_fraction_1 : decode cX5_fraction 1 = .ok (.lstore 5, 2) := by decide +kernel
theorem dX5_fraction_3 : decode cX5_fraction 3 = .ok (.lload_n 2, 1) := by decide +kernel
theorem dX5_fraction_4 : decode cX5_fraction 4 = .ok (.lstore 7, 2) := by decide +kernel
theorem dX5_fraction_6 : decode cX5_fraction 6 = .ok (.iconst 0, 1) := by decide +kernel
theorem dX5_fraction_7 : decode cX5_fraction 7 = .ok (.istore 9, 2) := by decide +kernel
theorem dX5_fraction_9 : decode cX5_fraction 9 = .ok (.iload 9, 2) := by decide +kernel
theorem dX5_fraction_11 : decode cX5_fraction 11 = .ok (.sipush 200, 3) := by decide +kernel
theorem dX5_fraction_14 : decode cX5_fraction 14 = .ok (.if_icmp .ge 31, 3) := by decide +kernel
theorem dX5_fraction_17 : decode cX5_fraction 17 = .ok (.lload 7, 2) := by decide +kernel
theorem dX5_fraction_19 : decode cX5_fraction 19 = .ok (.lconst 0, 1) := by decide +kernel
theorem dX5_fraction_20 : decode cX5_fraction 20 = .ok (.lcmp, 1) := by decide +kernel
theorem dX5_fraction_21 : decode cX5_fraction 21 = .ok (.ifCond .eq 24, 3) := by decide +kernel
theorem dX5_fraction_24 : decode cX5_fraction 24 = .ok (.lload 5, 2) := by decide +kernel
theorem dX5_fraction_26 : decode cX5_fraction 26 = .ok (.lload 7, 2) := by decide +kernel
theorem dX5_fraction_28 : decode cX5_fraction 28 = .ok (.lrem, 1) := by decide +kernel
theorem dX5_fraction_29 : decode cX5_fraction 29 = .ok (.lstore 10, 2) := by decide +kernel
theorem dX5_fraction_31 : decode cX5_fraction 31 = .ok (.lload 7, 2) := by decide +kernel
theorem dX5_fraction_33 : decode cX5_fraction 33 = .ok (.lstore 5, 2) := by decide +kernel
theorem dX5_fraction_35 : decode cX5_fraction 35 = .ok (.lload 10, 2) := by decide +kernel
theorem dX5_fraction_37 : decode cX5_fraction 37 = .ok (.lstore 7, 2) := by decide +kernel
theorem dX5_fraction_39 : decode cX5_fraction 39 = .ok (.iinc 9 1, 3) := by decide +kernel
theorem dX5_fraction_42 : decode cX5_fraction 42 = .ok (.goto (-33), 3) := by decide +kernel
theorem dX5_fraction_45 : decode cX5_fraction 45 = .ok (.lload 5, 2) := by decide +kernel
theorem dX5_fraction_47 : decode cX5_fraction 47 = .ok (.lconst 0, 1) := by decide +kernel
theorem dX5_fraction_48 : decode cX5_fraction 48 = .ok (.lcmp, 1) := by decide +kernel
theorem dX5_fraction_49 : decode cX5_fraction 49 = .ok (.ifCond .gt 5, 3) := by decide +kernel
theorem dX5_fraction_52 : decode cX5_fraction 52 = .ok (.lconst 0, 1) := by decide +kernel
theorem dX5_fraction_53 : decode cX5_fraction 53 = .ok (.lreturn, 1) := by decide +kernel
theorem dX5_fraction_54 : decode cX5_fraction 54 = .ok (.iload 4, 2) := by decide +kernel
theorem dX5_fraction_56 : decode cX5_fraction 56 = .ok (.ifCond .ne 7, 3) := by decide +kernel
theorem dX5_fraction_59 : decode cX5_fraction 59 = .ok (.lload_n 0, 1) := by decide +kernel
theorem dX5_fraction_60 : decode cX5_fraction 60 = .ok (.goto 4, 3) := by decide +kernel
theorem dX5_fraction_63 : decode cX5_fraction 63 = .ok (.lload_n 2, 1) := by decide +kernel
theorem dX5_fraction_64 : decode cX5_fraction 64 = .ok (.lload 5, 2) := by decide +kernel
theorem dX5_fraction_66 : decode cX5_fraction 66 = .ok (.ldiv, 1) := by decide +kernel
theorem dX5_fraction_67 : decode cX5_fraction 67 = .ok (.lreturn, 1) := by decide +kernel
theorem dX5_allHaveHadAlike_0 : decode cX5_allHaveHadAlike 0 = .ok (.iconst 1, 1) := by decide +kernel
theorem dX5_allHaveHadAlike_1 : decode cX5_allHaveHadAlike 1 = .ok (.istore_n 1, 1) := by decide +kernel
theorem dX5_allHaveHadAlike_2 : decode cX5_allHaveHadAlike 2 = .ok (.iconst 0, 1) := by decide +kernel
theorem dX5_allHaveHadAlike_3 : decode cX5_allHaveHadAlike 3 = .ok (.istore_n 2, 1) := by decide +kernel
theorem dX5_allHaveHadAlike_4 : decode cX5_allHaveHadAlike 4 = .ok (.iload_n 2, 1) := by decide +kernel
theorem dX5_allHaveHadAlike_5 : decode cX5_allHaveHadAlike 5 = .ok (.aload_n 0, 1) := by decide +kernel
theorem dX5_allHaveHadAlike_6 : decode cX5_allHaveHadAlike 6 = .ok (.getfield 23, 3) := by decide +kernel
theorem dX5_allHaveHadAlike_9 : decode cX5_allHaveHadAlike 9 = .ok (.getfield 99, 3) := by decide +kernel
theorem dX5_allHaveHadAlike_12 : decode cX5_allHaveHadAlike 12 = .ok (.if_icmp .ge 51, 3) := by decide +kernel
theorem dX5_allHaveHadAlike_15 : decode cX5_allHaveHadAlike 15 = .ok (.aload_n 0, 1) := by decide +kernel
theorem dX5_allHaveHadAlike_16 : decode cX5_allHaveHadAlike 16 = .ok (.getfield 56, 3) := by decide +kernel
theorem dX5_allHaveHadAlike_19 : decode cX5_allHaveHadAlike 19 = .ok (.iload_n 2, 1) := by decide +kernel
theorem dX5_allHaveHadAlike_20 : decode cX5_allHaveHadAlike 20 = .ok (.dup2, 1) := by decide +kernel
theorem dX5_allHaveHadAlike_21 : decode cX5_allHaveHadAlike 21 = .ok (.iaload, 1) := by decide +kernel
theorem dX5_allHaveHadAlike_22 : decode cX5_allHaveHadAlike 22 = .ok (.aload_n 0, 1) := by decide +kernel
theorem dX5_allHaveHadAlike_23 : decode cX5_allHaveHadAlike 23 = .ok (.getfield 23, 3) := by decide +kernel
theorem dX5_allHaveHadAlike_26 : decode cX5_allHaveHadAlike 26 = .ok (.iload_n 2, 1) := by decide +kernel
theorem dX5_allHaveHadAlike_27 : decode cX5_allHaveHadAlike 27 = .ok (.invokevirtual 291, 3) := by decide +kernel
theorem dX5_allHaveHadAlike_30 : decode cX5_allHaveHadAlike 30 = .ok (.iadd, 1) := by decide +kernel
theorem dX5_allHaveHadAlike_31 : decode cX5_allHaveHadAlike 31 = .ok (.iastore, 1) := by decide +kernel
theorem dX5_allHaveHadAlike_32 : decode cX5_allHaveHadAlike 32 = .ok (.iload_n 1, 1) := by decide +kernel
theorem dX5_allHaveHadAlike_33 : decode cX5_allHaveHadAlike 33 = .ok (.ifCond .eq 22, 3) := by decide +kernel
theorem dX5_allHaveHadAlike_36 : decode cX5_allHaveHadAlike 36 = .ok (.aload_n 0, 1) := by decide +kernel
theorem dX5_allHaveHadAlike_37 : decode cX5_allHaveHadAlike 37 = .ok (.getfield 56, 3) := by decide +kernel
theorem dX5_allHaveHadAlike_40 : decode cX5_allHaveHadAlike 40 = .ok (.iload_n 2, 1) := by decide +kernel
theorem dX5_allHaveHadAlike_41 : decode cX5_allHaveHadAlike 41 = .ok (.iaload, 1) := by decide +kernel
theorem dX5_allHaveHadAlike_42 : decode cX5_allHaveHadAlike 42 = .ok (.aload_n 0, 1) := by decide +kernel
theorem dX5_allHaveHadAlike_43 : decode cX5_allHaveHadAlike 43 = .ok (.getfield 56, 3) := by decide +kernel
theorem dX5_allHaveHadAlike_46 : decode cX5_allHaveHadAlike 46 = .ok (.iconst 0, 1) := by decide +kernel
theorem dX5_allHaveHadAlike_47 : decode cX5_allHaveHadAlike 47 = .ok (.iaload, 1) := by decide +kernel
theorem dX5_allHaveHadAlike_48 : decode cX5_allHaveHadAlike 48 = .ok (.if_icmp .ne 7, 3) := by decide +kernel
theorem dX5_allHaveHadAlike_51 : decode cX5_allHaveHadAlike 51 = .ok (.iconst 1, 1) := by decide +kernel
theorem dX5_allHaveHadAlike_52 : decode cX5_allHaveHadAlike 52 = .ok (.goto 4, 3) := by decide +kernel
theorem dX5_allHaveHadAlike_55 : decode cX5_allHaveHadAlike 55 = .ok (.iconst 0, 1) := by decide +kernel
theorem dX5_allHaveHadAlike_56 : decode cX5_allHaveHadAlike 56 = .ok (.istore_n 1, 1) := by decide +kernel
theorem dX5_allHaveHadAlike_57 : decode cX5_allHaveHadAlike 57 = .ok (.iinc 2 1, 3) := by decide +kernel
theorem dX5_allHaveHadAlike_60 : decode cX5_allHaveHadAlike 60 = .ok (.goto (-56), 3) := by decide +kernel
theorem dX5_allHaveHadAlike_63 : decode cX5_allHaveHadAlike 63 = .ok (.iload_n 1, 1) := by decide +kernel
theorem dX5_allHaveHadAlike_64 : decode cX5_allHaveHadAlike 64 = .ok (.ireturn, 1) := by decide +kernel
theorem dL_law_0 : decode cL_law 0 = .ok (.new 7, 3) := by decide +kernel
theorem dL_law_3 : decode cL_law 3 = .ok (.dup, 1) := by decide +kernel
theorem dL_law_4 : decode cL_law 4 = .ok (.invokespecial 9, 3) := by decide +kernel
theorem dL_law_7 : decode cL_law 7 = .ok (.astore_n 1, 1) := by decide +kernel
theorem dL_law_8 : decode cL_law 8 = .ok (.new 10, 3) := by decide +kernel
theorem dL_law_11 : decode cL_law 11 = .ok (.dup, 1) := by decide +kernel
theorem dL_law_12 : decode cL_law 12 = .ok (.invokespecial 12, 3) := by decide +kernel
theorem dL_law_15 : decode cL_law 15 = .ok (.astore_n 2, 1) := by decide +kernel
theorem dL_law_16 : decode cL_law 16 = .ok (.iconst 0, 1) := by decide +kernel
theorem dL_law_17 : decode cL_law 17 = .ok (.istore_n 3, 1) := by decide +kernel
theorem dL_law_18 : decode cL_law 18 = .ok (.iload_n 3, 1) := by decide +kernel
theorem dL_law_19 : decode cL_law 19 = .ok (.aload_n 0, 1) := by decide +kernel
theorem dL_law_20 : decode cL_law 20 = .ok (.arraylength, 1) := by decide +kernel
theorem dL_law_21 : decode cL_law 21 = .ok (.iconst 5, 1) := by decide +kernel
theorem dL_law_22 : decode cL_law 22 = .ok (.isub, 1) := by decide +kernel
theorem dL_law_23 : decode cL_law 23 = .ok (.if_icmp .gt 1350, 3) := by decide +kernel
theorem dL_law_26 : decode cL_law 26 = .ok (.aload_n 0, 1) := by decide +kernel
theorem dL_law_27 : decode cL_law 27 = .ok (.iload_n 3, 1) := by decide +kernel
theorem dL_law_28 : decode cL_law 28 = .ok (.iaload, 1) := by decide +kernel
theorem dL_law_29 : decode cL_law 29 = .ok (.bipush 63, 2) := by decide +kernel
theorem dL_law_31 : decode cL_law 31 = .ok (.iand, 1) := by decide +kernel
theorem dL_law_32 : decode cL_law 32 = .ok (.tableswitch 1335 0 39 #[176, 199, 222, 235, 248, 271, 304, 337, 370, 403, 426, 459, 482, 525, 558, 591, 614, 657, 690, 703, 716, 739, 772, 795, 818, 852, 875, 909, 943, 1002, 1025, 1048, 1071, 1114, 1137, 1160, 1203, 1246, 1299, 1312], 176) := by decide +kernel
theorem dL_law_208 : decode cL_law 208 = .ok (.aload_n 1, 1) := by decide +kernel
theorem dL_law_209 : decode cL_law 209 = .ok (.aload_n 0, 1) := by decide +kernel
theorem dL_law_210 : decode cL_law 210 = .ok (.iload_n 3, 1) := by decide +kernel
theorem dL_law_211 : decode cL_law 211 = .ok (.iconst 1, 1) := by decide +kernel
theorem dL_law_212 : decode cL_law 212 = .ok (.iadd, 1) := by decide +kernel
theorem dL_law_213 : decode cL_law 213 = .ok (.iaload, 1) := by decide +kernel
theorem dL_law_214 : decode cL_law 214 = .ok (.invokevirtual 13, 3) := by decide +kernel
theorem dL_law_217 : decode cL_law 217 = .ok (.aload_n 2, 1) := by decide +kernel
theorem dL_law_218 : decode cL_law 218 = .ok (.aload_n 0, 1) := by decide +kernel
theorem dL_law_219 : decode cL_law 219 = .ok (.iload_n 3, 1) := by decide +kernel
theorem dL_law_220 : decode cL_law 220 = .ok (.iconst 1, 1) := by decide +kernel
theorem dL_law_221 : decode cL_law 221 = .ok (.iadd, 1) := by decide +kernel
theorem dL_law_222 : decode cL_law 222 = .ok (.iaload, 1) := by decide +kernel
theorem dL_law_223 : decode cL_law 223 = .ok (.invokevirtual 17, 3) := by decide +kernel
theorem dL_law_226 : decode cL_law 226 = .ok (.if_icmp .eq 1141, 3) := by decide +kernel
theorem dL_law_229 : decode cL_law 229 = .ok (.iconst 0, 1) := by decide +kernel
theorem dL_law_230 : decode cL_law 230 = .ok (.ireturn, 1) := by decide +kernel
theorem dL_law_231 : decode cL_law 231 = .ok (.aload_n 1, 1) := by decide +kernel
theorem dL_law_232 : decode cL_law 232 = .ok (.aload_n 0, 1) := by decide +kernel
theorem dL_law_233 : decode cL_law 233 = .ok (.iload_n 3, 1) := by decide +kernel
theorem dL_law_234 : decode cL_law 234 = .ok (.iconst 1, 1) := by decide +kernel
theorem dL_law_235 : decode cL_law 235 = .ok (.iadd, 1) := by decide +kernel
theorem dL_law_236 : decode cL_law 236 = .ok (.iaload, 1) := by decide +kernel
theorem dL_law_237 : decode cL_law 237 = .ok (.invokevirtual 18, 3) := by decide +kernel
theorem dL_law_240 : decode cL_law 240 = .ok (.aload_n 2, 1) := by decide +kernel
theorem dL_law_241 : decode cL_law 241 = .ok (.aload_n 0, 1) := by decide +kernel
theorem dL_law_242 : decode cL_law 242 = .ok (.iload_n 3, 1) := by decide +kernel
theorem dL_law_243 : decode cL_law 243 = .ok (.iconst 1, 1) := by decide +kernel
theorem dL_law_244 : decode cL_law 244 = .ok (.iadd, 1) := by decide +kernel
theorem dL_law_245 : decode cL_law 245 = .ok (.iaload, 1) := by decide +kernel
theorem dL_law_246 : decode cL_law 246 = .ok (.invokevirtual 21, 3) := by decide +kernel
theorem dL_law_249 : decode cL_law 249 = .ok (.if_icmp .eq 1118, 3) := by decide +kernel
theorem dL_law_252 : decode cL_law 252 = .ok (.iconst 0, 1) := by decide +kernel
theorem dL_law_253 : decode cL_law 253 = .ok (.ireturn, 1) := by decide +kernel
theorem dL_law_254 : decode cL_law 254 = .ok (.aload_n 1, 1) := by decide +kernel
theorem dL_law_255 : decode cL_law 255 = .ok (.invokevirtual 22, 3) := by decide +kernel
theorem dL_law_258 : decode cL_law 258 = .ok (.aload_n 2, 1) := by decide +kernel
theorem dL_law_259 : decode cL_law 259 = .ok (.invokevirtual 26, 3) := by decide +kernel
theorem dL_law_262 : decode cL_law 262 = .ok (.if_icmp .eq 1105, 3) := by decide +kernel
theorem dL_law_265 : decode cL_law 265 = .ok (.iconst 0, 1) := by decide +kernel
theorem dL_law_266 : decode cL_law 266 = .ok (.ireturn, 1) := by decide +kernel
theorem dL_law_267 : decode cL_law 267 = .ok (.aload_n 1, 1) := by decide +kernel
theorem dL_law_268 : decode cL_law 268 = .ok (.invokevirtual 27, 3) := by decide +kernel
theorem dL_law_271 : decode cL_law 271 = .ok (.aload_n 2, 1) := by decide +kernel
theorem dL_law_272 : decode cL_law 272 = .ok (.invokevirtual 30, 3) := by decide +kernel
theorem dL_law_275 : decode cL_law 275 = .ok (.if_icmp .eq 1092, 3) := by decide +kernel
theorem dL_law_278 : decode cL_law 278 = .ok (.iconst 0, 1) := by decide +kernel
theorem dL_law_279 : decode cL_law 279 = .ok (.ireturn, 1) := by decide +kernel
theorem dL_law_280 : decode cL_law 280 = .ok (.aload_n 1, 1) := by decide +kernel
theorem dL_law_281 : decode cL_law 281 = .ok (.aload_n 0, 1) := by decide +kernel
theorem dL_law_282 : decode cL_law 282 = .ok (.iload_n 3, 1) := by decide +kernel
theorem dL_law_283 : decode cL_law 283 = .ok (.iconst 1, 1) := by decide +kernel
theorem dL_law_284 : decode cL_law 284 = .ok (.iadd, 1) := by decide +kernel
theorem dL_law_285 : decode cL_law 285 = .ok (.iaload, 1) := by decide +kernel
theorem dL_law_286 : decode cL_law 286 = .ok (.invokevirtual 31, 3) := by decide +kernel
theorem dL_law_289 : decode cL_law 289 = .ok (.aload_n 2, 1) := by decide +kernel
theorem dL_law_290 : decode cL_law 290 = .ok (.aload_n 0, 1) := by decide +kernel
theorem dL_law_291 : decode cL_law 291 = .ok (.iload_n 3, 1) := by decide +kernel
theorem dL_law_292 : decode cL_law 292 = .ok (.iconst 1, 1) := by decide +kernel
theorem dL_law_293 : decode cL_law 293 = .ok (.iadd, 1) := by decide +kernel
theorem dL_law_294 : decode cL_law 294 = .ok (.iaload, 1) := by decide +kernel
theorem dL_law_295 : decode cL_law 295 = .ok (.invokevirtual 34, 3) := by decide +kernel
theorem dL_law_298 : decode cL_law 298 = .ok (.if_icmp .eq 1069, 3) := by decide +kernel
theorem dL_law_301 : decode cL_law 301 = .ok (.iconst 0, 1) := by decide +kernel
theorem dL_law_302 : decode cL_law 302 = .ok (.ireturn, 1) := by decide +kernel
theorem dL_law_303 : decode cL_law 303 = .ok (.aload_n 1, 1) := by decide +kernel
theorem dL_law_304 : decode cL_law 304 = .ok (.aload_n 0, 1) := by decide +kernel
theorem dL_law_305 : decode cL_law 305 = .ok (.iload_n 3, 1) := by decide +kernel
theorem dL_law_306 : decode cL_law 306 = .ok (.iconst 1, 1) := by decide +kernel
theorem dL_law_307 : decode cL_law 307 = .ok (.iadd, 1) := by decide +kernel
theorem dL_law_308 : decode cL_law 308 = .ok (.iaload, 1) := by decide +kernel
theorem dL_law_309 : decode cL_law 309 = .ok (.aload_n 0, 1) := by decide +kernel
theorem dL_law_310 : decode cL_law 310 = .ok (.iload_n 3, 1) := by decide +kernel
theorem dL_law_311 : decode cL_law 311 = .ok (.iconst 2, 1) := by decide +kernel
theorem dL_law_312 : decode cL_law 312 = .ok (.iadd, 1) := by decide +kernel
theorem dL_law_313 : decode cL_law 313 = .ok (.iaload, 1) := by decide +kernel
theorem dL_law_314 : decode cL_law 314 = .ok (.invokevirtual 35, 3) := by decide +kernel
theorem dL_law_317 : decode cL_law 317 = .ok (.aload_n 2, 1) := by decide +kernel
theorem dL_law_318 : decode cL_law 318 = .ok (.aload_n 0, 1) := by decide +kernel
theorem dL_law_319 : decode cL_law 319 = .ok (.iload_n 3, 1) := by decide +kernel
theorem dL_law_320 : decode cL_law 320 = .ok (.iconst 1, 1) := by decide +kernel
theorem dL_law_321 : decode cL_law 321 = .ok (.iadd, 1) := by decide +kernel
theorem dL_law_322 : decode cL_law 322 = .ok (.iaload, 1) := by decide +kernel
theorem dL_law_323 : decode cL_law 323 = .ok (.aload_n 0, 1) := by decide +kernel
theorem dL_law_324 : decode cL_law 324 = .ok (.iload_n 3, 1) := by decide +kernel
theorem dL_law_325 : decode cL_law 325 = .ok (.iconst 2, 1) := by decide +kernel
theorem dL_law_326 : decode cL_law 326 = .ok (.iadd, 1) := by decide +kernel
theorem dL_law_327 : decode cL_law 327 = .ok (.iaload, 1) := by decide +kernel
theorem dL_law_328 : decode cL_law 328 = .ok (.invokevirtual 39, 3) := by decide +kernel
theorem dL_law_331 : decode cL_law 331 = .ok (.if_icmp .eq 1036, 3) := by decide +kernel
theorem dL_law_334 : decode cL_law 334 = .ok (.iconst 0, 1) := by decide +kernel
theorem dL_law_335 : decode cL_law 335 = .ok (.ireturn, 1) := by decide +kernel
theorem dL_law_336 : decode cL_law 336 = .ok (.aload_n 1, 1) := by decide +kernel
theorem dL_law_337 : decode cL_law 337 = .ok (.aload_n 0, 1) := by decide +kernel
theorem dL_law_338 : decode cL_law 338 = .ok (.iload_n 3, 1) := by decide +kernel
theorem dL_law_339 : decode cL_law 339 = .ok (.iconst 1, 1) := by decide +kernel
theorem dL_law_340 : decode cL_law 340 = .ok (.iadd, 1) := by decide +kernel
theorem dL_law_341 : decode cL_law 341 = .ok (.iaload, 1) := by decide +kernel
theorem dL_law_342 : decode cL_law 342 = .ok (.aload_n 0, 1) := by decide +kernel
theorem dL_law_343 : decode cL_law 343 = .ok (.iload_n 3, 1) := by decide +kernel
theorem dL_law_344 : decode cL_law 344 = .ok (.iconst 2, 1) := by decide +kernel
theorem dL_law_345 : decode cL_law 345 = .ok (.iadd, 1) := by decide +kernel
theorem dL_law_346 : decode cL_law 346 = .ok (.iaload, 1) := by decide +kernel
theorem dL_law_347 : decode cL_law 347 = .ok (.invokevirtual 40, 3) := by decide +kernel
theorem dL_law_350 : decode cL_law 350 = .ok (.aload_n 2, 1) := by decide +kernel
theorem dL_law_351 : decode cL_law 351 = .ok (.aload_n 0, 1) := by decide +kernel
theorem dL_law_352 : decode cL_law 352 = .ok (.iload_n 3, 1) := by decide +kernel
theorem dL_law_353 : decode cL_law 353 = .ok (.iconst 1, 1) := by decide +kernel
theorem dL_law_354 : decode cL_law 354 = .ok (.iadd, 1) := by decide +kernel
theorem dL_law_355 : decode cL_law 355 = .ok (.iaload, 1) := by decide +kernel
theorem dL_law_356 : decode cL_law 356 = .ok (.aload_n 0, 1) := by decide +kernel
theorem dL_law_357 : decode cL_law 357 = .ok (.iload_n 3, 1) := by decide +kernel
theorem dL_law_358 : decode cL_law 358 = .ok (.iconst 2, 1) := by decide +kernel
theorem dL_law_359 : decode cL_law 359 = .ok (.iadd, 1) := by decide +kernel
theorem dL_law_360 : decode cL_law 360 = .ok (.iaload, 1) := by decide +kernel
theorem dL_law_361 : decode cL_law 361 = .ok (.invokevirtual 43, 3) := by decide +kernel
theorem dL_law_364 : decode cL_law 364 = .ok (.if_icmp .eq 1003, 3) := by decide +kernel
theorem dL_law_367 : decode cL_law 367 = .ok (.iconst 0, 1) := by decide +kernel
theorem dL_law_368 : decode cL_law 368 = .ok (.ireturn, 1) := by decide +kernel
theorem dL_law_369 : decode cL_law 369 = .ok (.aload_n 1, 1) := by decide +kernel
theorem dL_law_370 : decode cL_law 370 = .ok (.aload_n 0, 1) := by decide +kernel
theorem dL_law_371 : decode cL_law 371 = .ok (.iload_n 3, 1) := by decide +kernel
theorem dL_law_372 : decode cL_law 372 = .ok (.iconst 1, 1) := by decide +kernel
theorem dL_law_373 : decode cL_law 373 = .ok (.iadd, 1) := by decide +kernel
theorem dL_law_374 : decode cL_law 374 = .ok (.iaload, 1) := by decide +kernel
theorem dL_law_375 : decode cL_law 375 = .ok (.aload_n 0, 1) := by decide +kernel
theorem dL_law_376 : decode cL_law 376 = .ok (.iload_n 3, 1) := by decide +kernel
theorem dL_law_377 : decode cL_law 377 = .ok (.iconst 2, 1) := by decide +kernel
theorem dL_law_378 : decode cL_law 378 = .ok (.iadd, 1) := by decide +kernel
theorem dL_law_379 : decode cL_law 379 = .ok (.iaload, 1) := by decide +kernel
theorem dL_law_380 : decode cL_law 380 = .ok (.invokevirtual 44, 3) := by decide +kernel
theorem dL_law_383 : decode cL_law 383 = .ok (.aload_n 2, 1) := by decide +kernel
theorem dL_law_384 : decode cL_law 384 = .ok (.aload_n 0, 1) := by decide +kernel
theorem dL_law_385 : decode cL_law 385 = .ok (.iload_n 3, 1) := by decide +kernel
theorem dL_law_386 : decode cL_law 386 = .ok (.iconst 1, 1) := by decide +kernel
theorem dL_law_387 : decode cL_law 387 = .ok (.iadd, 1) := by decide +kernel
theorem dL_law_388 : decode cL_law 388 = .ok (.iaload, 1) := by decide +kernel
theorem dL_law_389 : decode cL_law 389 = .ok (.aload_n 0, 1) := by decide +kernel
theorem dL_law_390 : decode cL_law 390 = .ok (.iload_n 3, 1) := by decide +kernel
theorem dL_law_391 : decode cL_law 391 = .ok (.iconst 2, 1) := by decide +kernel
theorem dL_law_392 : decode cL_law 392 = .ok (.iadd, 1) := by decide +kernel
theorem dL_law_393 : decode cL_law 393 = .ok (.iaload, 1) := by decide +kernel
theorem dL_law_394 : decode cL_law 394 = .ok (.invokevirtual 47, 3) := by decide +kernel
theorem dL_law_397 : decode cL_law 397 = .ok (.if_icmp .eq 970, 3) := by decide +kernel
theorem dL_law_400 : decode cL_law 400 = .ok (.iconst 0, 1) := by decide +kernel
theorem dL_law_401 : decode cL_law 401 = .ok (.ireturn, 1) := by decide +kernel
theorem dL_law_402 : decode cL_law 402 = .ok (.aload_n 1, 1) := by decide +kernel
theorem dL_law_403 : decode cL_law 403 = .ok (.aload_n 0, 1) := by decide +kernel
theorem dL_law_404 : decode cL_law 404 = .ok (.iload_n 3, 1) := by decide +kernel
theorem dL_law_405 : decode cL_law 405 = .ok (.iconst 1, 1) := by decide +kernel
theorem dL_law_406 : decode cL_law 406 = .ok (.iadd, 1) := by decide +kernel
theorem dL_law_407 : decode cL_law 407 = .ok (.iaload, 1) := by decide +kernel
theorem dL_law_408 : decode cL_law 408 = .ok (.aload_n 0, 1) := by decide +kernel
theorem dL_law_409 : decode cL_law 409 = .ok (.iload_n 3, 1) := by decide +kernel
theorem dL_law_410 : decode cL_law 410 = .ok (.iconst 2, 1) := by decide +kernel
theorem dL_law_411 : decode cL_law 411 = .ok (.iadd, 1) := by decide +kernel
theorem dL_law_412 : decode cL_law 412 = .ok (.iaload, 1) := by decide +kernel
theorem dL_law_413 : decode cL_law 413 = .ok (.invokevirtual 48, 3) := by decide +kernel
theorem dL_law_416 : decode cL_law 416 = .ok (.aload_n 2, 1) := by decide +kernel
theorem dL_law_417 : decode cL_law 417 = .ok (.aload_n 0, 1) := by decide +kernel
theorem dL_law_418 : decode cL_law 418 = .ok (.iload_n 3, 1) := by decide +kernel
theorem dL_law_419 : decode cL_law 419 = .ok (.iconst 1, 1) := by decide +kernel
theorem dL_law_420 : decode cL_law 420 = .ok (.iadd, 1) := by decide +kernel
theorem dL_law_421 : decode cL_law 421 = .ok (.iaload, 1) := by decide +kernel
theorem dL_law_422 : decode cL_law 422 = .ok (.aload_n 0, 1) := by decide +kernel
theorem dL_law_423 : decode cL_law 423 = .ok (.iload_n 3, 1) := by decide +kernel
theorem dL_law_424 : decode cL_law 424 = .ok (.iconst 2, 1) := by decide +kernel
theorem dL_law_425 : decode cL_law 425 = .ok (.iadd, 1) := by decide +kernel
theorem dL_law_426 : decode cL_law 426 = .ok (.iaload, 1) := by decide +kernel
theorem dL_law_427 : decode cL_law 427 = .ok (.invokevirtual 51, 3) := by decide +kernel
theorem dL_law_430 : decode cL_law 430 = .ok (.if_icmp .eq 937, 3) := by decide +kernel
theorem dL_law_433 : decode cL_law 433 = .ok (.iconst 0, 1) := by decide +kernel
theorem dL_law_434 : decode cL_law 434 = .ok (.ireturn, 1) := by decide +kernel
theorem dL_law_435 : decode cL_law 435 = .ok (.aload_n 1, 1) := by decide +kernel
theorem dL_law_436 : decode cL_law 436 = .ok (.aload_n 0, 1) := by decide +kernel
theorem dL_law_437 : decode cL_law 437 = .ok (.iload_n 3, 1) := by decide +kernel
theorem dL_law_438 : decode cL_law 438 = .ok (.iconst 1, 1) := by decide +kernel
theorem dL_law_439 : decode cL_law 439 = .ok (.iadd, 1) := by decide +kernel
theorem dL_law_440 : decode cL_law 440 = .ok (.iaload, 1) := by decide +kernel
theorem dL_law_441 : decode cL_law 441 = .ok (.invokevirtual 52, 3) := by decide +kernel
theorem dL_law_444 : decode cL_law 444 = .ok (.aload_n 2, 1) := by decide +kernel
theorem dL_law_445 : decode cL_law 445 = .ok (.aload_n 0, 1) := by decide +kernel
theorem dL_law_446 : decode cL_law 446 = .ok (.iload_n 3, 1) := by decide +kernel
theorem dL_law_447 : decode cL_law 447 = .ok (.iconst 1, 1) := by decide +kernel
theorem dL_law_448 : decode cL_law 448 = .ok (.iadd, 1) := by decide +kernel
theorem dL_law_449 : decode cL_law 449 = .ok (.iaload, 1) := by decide +kernel
theorem dL_law_450 : decode cL_law 450 = .ok (.invokevirtual 55, 3) := by decide +kernel
theorem dL_law_453 : decode cL_law 453 = .ok (.if_icmp .eq 914, 3) := by decide +kernel
theorem dL_law_456 : decode cL_law 456 = .ok (.iconst 0, 1) := by decide +kernel
theorem dL_law_457 : decode cL_law 457 = .ok (.ireturn, 1) := by decide +kernel
theorem dL_law_458 : decode cL_law 458 = .ok (.aload_n 1, 1) := by decide +kernel
theorem dL_law_459 : decode cL_law 459 = .ok (.aload_n 0, 1) := by decide +kernel
theorem dL_law_460 : decode cL_law 460 = .ok (.iload_n 3, 1) := by decide +kernel
theorem dL_law_461 : decode cL_law 461 = .ok (.iconst 1, 1) := by decide +kernel
theorem dL_law_462 : decode cL_law 462 = .ok (.iadd, 1) := by decide +kernel
theorem dL_law_463 : decode cL_law 463 = .ok (.iaload, 1) := by decide +kernel
theorem dL_law_464 : decode cL_law 464 = .ok (.aload_n 0, 1) := by decide +kernel
theorem dL_law_465 : decode cL_law 465 = .ok (.iload_n 3, 1) := by decide +kernel
theorem dL_law_466 : decode cL_law 466 = .ok (.iconst 2, 1) := by decide +kernel
theorem dL_law_467 : decode cL_law 467 = .ok (.iadd, 1) := by decide +kernel
theorem dL_law_468 : decode cL_law 468 = .ok (.iaload, 1) := by decide +kernel
theorem dL_law_469 : decode cL_law 469 = .ok (.invokevirtual 56, 3) := by decide +kernel
theorem dL_law_472 : decode cL_law 472 = .ok (.aload_n 2, 1) := by decide +kernel
theorem dL_law_473 : decode cL_law 473 = .ok (.aload_n 0, 1) := by decide +kernel
theorem dL_law_474 : decode cL_law 474 = .ok (.iload_n 3, 1) := by decide +kernel
theorem dL_law_475 : decode cL_law 475 = .ok (.iconst 1, 1) := by decide +kernel
theorem dL_law_476 : decode cL_law 476 = .ok (.iadd, 1) := by decide +kernel
theorem dL_law_477 : decode cL_law 477 = .ok (.iaload, 1) := by decide +kernel
theorem dL_law_478 : decode cL_law 478 = .ok (.aload_n 0, 1) := by decide +kernel
theorem dL_law_479 : decode cL_law 479 = .ok (.iload_n 3, 1) := by decide +kernel
theorem dL_law_480 : decode cL_law 480 = .ok (.iconst 2, 1) := by decide +kernel
theorem dL_law_481 : decode cL_law 481 = .ok (.iadd, 1) := by decide +kernel
theorem dL_law_482 : decode cL_law 482 = .ok (.iaload, 1) := by decide +kernel
theorem dL_law_483 : decode cL_law 483 = .ok (.invokevirtual 59, 3) := by decide +kernel
theorem dL_law_486 : decode cL_law 486 = .ok (.if_icmp .eq 881, 3) := by decide +kernel
theorem dL_law_489 : decode cL_law 489 = .ok (.iconst 0, 1) := by decide +kernel
theorem dL_law_490 : decode cL_law 490 = .ok (.ireturn, 1) := by decide +kernel
theorem dL_law_491 : decode cL_law 491 = .ok (.aload_n 1, 1) := by decide +kernel
theorem dL_law_492 : decode cL_law 492 = .ok (.aload_n 0, 1) := by decide +kernel
theorem dL_law_493 : decode cL_law 493 = .ok (.iload_n 3, 1) := by decide +kernel
theorem dL_law_494 : decode cL_law 494 = .ok (.iconst 1, 1) := by decide +kernel
theorem dL_law_495 : decode cL_law 495 = .ok (.iadd, 1) := by decide +kernel
theorem dL_law_496 : decode cL_law 496 = .ok (.iaload, 1) := by decide +kernel
theorem dL_law_497 : decode cL_law 497 = .ok (.invokevirtual 60, 3) := by decide +kernel
theorem dL_law_500 : decode cL_law 500 = .ok (.aload_n 2, 1) := by decide +kernel
theorem dL_law_501 : decode cL_law 501 = .ok (.aload_n 0, 1) := by decide +kernel
theorem dL_law_502 : decode cL_law 502 = .ok (.iload_n 3, 1) := by decide +kernel
theorem dL_law_503 : decode cL_law 503 = .ok (.iconst 1, 1) := by decide +kernel
theorem dL_law_504 : decode cL_law 504 = .ok (.iadd, 1) := by decide +kernel
theorem dL_law_505 : decode cL_law 505 = .ok (.iaload, 1) := by decide +kernel
theorem dL_law_506 : decode cL_law 506 = .ok (.invokevirtual 63, 3) := by decide +kernel
theorem dL_law_509 : decode cL_law 509 = .ok (.if_icmp .eq 858, 3) := by decide +kernel
theorem dL_law_512 : decode cL_law 512 = .ok (.iconst 0, 1) := by decide +kernel
theorem dL_law_513 : decode cL_law 513 = .ok (.ireturn, 1) := by decide +kernel
theorem dL_law_514 : decode cL_law 514 = .ok (.aload_n 1, 1) := by decide +kernel
theorem dL_law_515 : decode cL_law 515 = .ok (.aload_n 0, 1) := by decide +kernel
theorem dL_law_516 : decode cL_law 516 = .ok (.iload_n 3, 1) := by decide +kernel
theorem dL_law_517 : decode cL_law 517 = .ok (.iconst 1, 1) := by decide +kernel
theorem dL_law_518 : decode cL_law 518 = .ok (.iadd, 1) := by decide +kernel
theorem dL_law_519 : decode cL_law 519 = .ok (.iaload, 1) := by decide +kernel
theorem dL_law_520 : decode cL_law 520 = .ok (.aload_n 0, 1) := by decide +kernel
theorem dL_law_521 : decode cL_law 521 = .ok (.iload_n 3, 1) := by decide +kernel
theorem dL_law_522 : decode cL_law 522 = .ok (.iconst 2, 1) := by decide +kernel
theorem dL_law_523 : decode cL_law 523 = .ok (.iadd, 1) := by decide +kernel
theorem dL_law_524 : decode cL_law 524 = .ok (.iaload, 1) := by decide +kernel
theorem dL_law_525 : decode cL_law 525 = .ok (.aload_n 0, 1) := by decide +kernel
theorem dL_law_526 : decode cL_law 526 = .ok (.iload_n 3, 1) := by decide +kernel
theorem dL_law_527 : decode cL_law 527 = .ok (.iconst 3, 1) := by decide +kernel
theorem dL_law_528 : decode cL_law 528 = .ok (.iadd, 1) := by decide +kernel
theorem dL_law_529 : decode cL_law 529 = .ok (.iaload, 1) := by decide +kernel
theorem dL_law_530 : decode cL_law 530 = .ok (.invokevirtual 64, 3) := by decide +kernel
theorem dL_law_533 : decode cL_law 533 = .ok (.aload_n 2, 1) := by decide +kernel
theorem dL_law_534 : decode cL_law 534 = .ok (.aload_n 0, 1) := by decide +kernel
theorem dL_law_535 : decode cL_law 535 = .ok (.iload_n 3, 1) := by decide +kernel
theorem dL_law_536 : decode cL_law 536 = .ok (.iconst 1, 1) := by decide +kernel
theorem dL_law_537 : decode cL_law 537 = .ok (.iadd, 1) := by decide +kernel
theorem dL_law_538 : decode cL_law 538 = .ok (.iaload, 1) := by decide +kernel
theorem dL_law_539 : decode cL_law 539 = .ok (.aload_n 0, 1) := by decide +kernel
theorem dL_law_540 : decode cL_law 540 = .ok (.iload_n 3, 1) := by decide +kernel
theorem dL_law_541 : decode cL_law 541 = .ok (.iconst 2, 1) := by decide +kernel
theorem dL_law_542 : decode cL_law 542 = .ok (.iadd, 1) := by decide +kernel
theorem dL_law_543 : decode cL_law 543 = .ok (.iaload, 1) := by decide +kernel
theorem dL_law_544 : decode cL_law 544 = .ok (.aload_n 0, 1) := by decide +kernel
theorem dL_law_545 : decode cL_law 545 = .ok (.iload_n 3, 1) := by decide +kernel
theorem dL_law_546 : decode cL_law 546 = .ok (.iconst 3, 1) := by decide +kernel
theorem dL_law_547 : decode cL_law 547 = .ok (.iadd, 1) := by decide +kernel
theorem dL_law_548 : decode cL_law 548 = .ok (.iaload, 1) := by decide +kernel
theorem dL_law_549 : decode cL_law 549 = .ok (.invokevirtual 68, 3) := by decide +kernel
theorem dL_law_552 : decode cL_law 552 = .ok (.if_icmp .eq 815, 3) := by decide +kernel
theorem dL_law_555 : decode cL_law 555 = .ok (.iconst 0, 1) := by decide +kernel
theorem dL_law_556 : decode cL_law 556 = .ok (.ireturn, 1) := by decide +kernel
theorem dL_law_557 : decode cL_law 557 = .ok (.aload_n 1, 1) := by decide +kernel
theorem dL_law_558 : decode cL_law 558 = .ok (.aload_n 0, 1) := by decide +kernel
theorem dL_law_559 : decode cL_law 559 = .ok (.iload_n 3, 1) := by decide +kernel
theorem dL_law_560 : decode cL_law 560 = .ok (.iconst 1, 1) := by decide +kernel
theorem dL_law_561 : decode cL_law 561 = .ok (.iadd, 1) := by decide +kernel
theorem dL_law_562 : decode cL_law 562 = .ok (.iaload, 1) := by decide +kernel
theorem dL_law_563 : decode cL_law 563 = .ok (.aload_n 0, 1) := by decide +kernel
theorem dL_law_564 : decode cL_law 564 = .ok (.iload_n 3, 1) := by decide +kernel
theorem dL_law_565 : decode cL_law 565 = .ok (.iconst 2, 1) := by decide +kernel
theorem dL_law_566 : decode cL_law 566 = .ok (.iadd, 1) := by decide +kernel
theorem dL_law_567 : decode cL_law 567 = .ok (.iaload, 1) := by decide +kernel
theorem dL_law_568 : decode cL_law 568 = .ok (.invokevirtual 69, 3) := by decide +kernel
theorem dL_law_571 : decode cL_law 571 = .ok (.aload_n 2, 1) := by decide +kernel
theorem dL_law_572 : decode cL_law 572 = .ok (.aload_n 0, 1) := by decide +kernel
theorem dL_law_573 : decode cL_law 573 = .ok (.iload_n 3, 1) := by decide +kernel
theorem dL_law_574 : decode cL_law 574 = .ok (.iconst 1, 1) := by decide +kernel
theorem dL_law_575 : decode cL_law 575 = .ok (.iadd, 1) := by decide +kernel
theorem dL_law_576 : decode cL_law 576 = .ok (.iaload, 1) := by decide +kernel
theorem dL_law_577 : decode cL_law 577 = .ok (.aload_n 0, 1) := by decide +kernel
theorem dL_law_578 : decode cL_law 578 = .ok (.iload_n 3, 1) := by decide +kernel
theorem dL_law_579 : decode cL_law 579 = .ok (.iconst 2, 1) := by decide +kernel
theorem dL_law_580 : decode cL_law 580 = .ok (.iadd, 1) := by decide +kernel
theorem dL_law_581 : decode cL_law 581 = .ok (.iaload, 1) := by decide +kernel
theorem dL_law_582 : decode cL_law 582 = .ok (.invokevirtual 72, 3) := by decide +kernel
theorem dL_law_585 : decode cL_law 585 = .ok (.if_icmp .eq 782, 3) := by decide +kernel
theorem dL_law_588 : decode cL_law 588 = .ok (.iconst 0, 1) := by decide +kernel
theorem dL_law_589 : decode cL_law 589 = .ok (.ireturn, 1) := by decide +kernel
theorem dL_law_590 : decode cL_law 590 = .ok (.aload_n 1, 1) := by decide +kernel
theorem dL_law_591 : decode cL_law 591 = .ok (.aload_n 0, 1) := by decide +kernel
theorem dL_law_592 : decode cL_law 592 = .ok (.iload_n 3, 1) := by decide +kernel
theorem dL_law_593 : decode cL_law 593 = .ok (.iconst 1, 1) := by decide +kernel
theorem dL_law_594 : decode cL_law 594 = .ok (.iadd, 1) := by decide +kernel
theorem dL_law_595 : decode cL_law 595 = .ok (.iaload, 1) := by decide +kernel
theorem dL_law_596 : decode cL_law 596 = .ok (.aload_n 0, 1) := by decide +kernel
theorem dL_law_597 : decode cL_law 597 = .ok (.iload_n 3, 1) := by decide +kernel
theorem dL_law_598 : decode cL_law 598 = .ok (.iconst 2, 1) := by decide +kernel
theorem dL_law_599 : decode cL_law 599 = .ok (.iadd, 1) := by decide +kernel
theorem dL_law_600 : decode cL_law 600 = .ok (.iaload, 1) := by decide +kernel
theorem dL_law_601 : decode cL_law 601 = .ok (.invokevirtual 73, 3) := by decide +kernel
theorem dL_law_604 : decode cL_law 604 = .ok (.aload_n 2, 1) := by decide +kernel
theorem dL_law_605 : decode cL_law 605 = .ok (.aload_n 0, 1) := by decide +kernel
theorem dL_law_606 : decode cL_law 606 = .ok (.iload_n 3, 1) := by decide +kernel
theorem dL_law_607 : decode cL_law 607 = .ok (.iconst 1, 1) := by decide +kernel
theorem dL_law_608 : decode cL_law 608 = .ok (.iadd, 1) := by decide +kernel
theorem dL_law_609 : decode cL_law 609 = .ok (.iaload, 1) := by decide +kernel
theorem dL_law_610 : decode cL_law 610 = .ok (.aload_n 0, 1) := by decide +kernel
theorem dL_law_611 : decode cL_law 611 = .ok (.iload_n 3, 1) := by decide +kernel
theorem dL_law_612 : decode cL_law 612 = .ok (.iconst 2, 1) := by decide +kernel
theorem dL_law_613 : decode cL_law 613 = .ok (.iadd, 1) := by decide +kernel
theorem dL_law_614 : decode cL_law 614 = .ok (.iaload, 1) := by decide +kernel
theorem dL_law_615 : decode cL_law 615 = .ok (.invokevirtual 76, 3) := by decide +kernel
theorem dL_law_618 : decode cL_law 618 = .ok (.if_icmp .eq 749, 3) := by decide +kernel
theorem dL_law_621 : decode cL_law 621 = .ok (.iconst 0, 1) := by decide +kernel
theorem dL_law_622 : decode cL_law 622 = .ok (.ireturn, 1) := by decide +kernel
theorem dL_law_623 : decode cL_law 623 = .ok (.aload_n 1, 1) := by decide +kernel
theorem dL_law_624 : decode cL_law 624 = .ok (.aload_n 0, 1) := by decide +kernel
theorem dL_law_625 : decode cL_law 625 = .ok (.iload_n 3, 1) := by decide +kernel
theorem dL_law_626 : decode cL_law 626 = .ok (.iconst 1, 1) := by decide +kernel
theorem dL_law_627 : decode cL_law 627 = .ok (.iadd, 1) := by decide +kernel
theorem dL_law_628 : decode cL_law 628 = .ok (.iaload, 1) := by decide +kernel
theorem dL_law_629 : decode cL_law 629 = .ok (.invokevirtual 77, 3) := by decide +kernel
theorem dL_law_632 : decode cL_law 632 = .ok (.aload_n 2, 1) := by decide +kernel
theorem dL_law_633 : decode cL_law 633 = .ok (.aload_n 0, 1) := by decide +kernel
theorem dL_law_634 : decode cL_law 634 = .ok (.iload_n 3, 1) := by decide +kernel
theorem dL_law_635 : decode cL_law 635 = .ok (.iconst 1, 1) := by decide +kernel
theorem dL_law_636 : decode cL_law 636 = .ok (.iadd, 1) := by decide +kernel
theorem dL_law_637 : decode cL_law 637 = .ok (.iaload, 1) := by decide +kernel
theorem dL_law_638 : decode cL_law 638 = .ok (.invokevirtual 80, 3) := by decide +kernel
theorem dL_law_641 : decode cL_law 641 = .ok (.if_icmp .eq 726, 3) := by decide +kernel
theorem dL_law_644 : decode cL_law 644 = .ok (.iconst 0, 1) := by decide +kernel
theorem dL_law_645 : decode cL_law 645 = .ok (.ireturn, 1) := by decide +kernel
theorem dL_law_646 : decode cL_law 646 = .ok (.aload_n 1, 1) := by decide +kernel
theorem dL_law_647 : decode cL_law 647 = .ok (.aload_n 0, 1) := by decide +kernel
theorem dL_law_648 : decode cL_law 648 = .ok (.iload_n 3, 1) := by decide +kernel
theorem dL_law_649 : decode cL_law 649 = .ok (.iconst 1, 1) := by decide +kernel
theorem dL_law_650 : decode cL_law 650 = .ok (.iadd, 1) := by decide +kernel
theorem dL_law_651 : decode cL_law 651 = .ok (.iaload, 1) := by decide +kernel
theorem dL_law_652 : decode cL_law 652 = .ok (.aload_n 0, 1) := by decide +kernel
theorem dL_law_653 : decode cL_law 653 = .ok (.iload_n 3, 1) := by decide +kernel
theorem dL_law_654 : decode cL_law 654 = .ok (.iconst 2, 1) := by decide +kernel
theorem dL_law_655 : decode cL_law 655 = .ok (.iadd, 1) := by decide +kernel
theorem dL_law_656 : decode cL_law 656 = .ok (.iaload, 1) := by decide +kernel
theorem dL_law_657 : decode cL_law 657 = .ok (.aload_n 0, 1) := by decide +kernel
theorem dL_law_658 : decode cL_law 658 = .ok (.iload_n 3, 1) := by decide +kernel
theorem dL_law_659 : decode cL_law 659 = .ok (.iconst 3, 1) := by decide +kernel
theorem dL_law_660 : decode cL_law 660 = .ok (.iadd, 1) := by decide +kernel
theorem dL_law_661 : decode cL_law 661 = .ok (.iaload, 1) := by decide +kernel
theorem dL_law_662 : decode cL_law 662 = .ok (.invokevirtual 81, 3) := by decide +kernel
theorem dL_law_665 : decode cL_law 665 = .ok (.aload_n 2, 1) := by decide +kernel
theorem dL_law_666 : decode cL_law 666 = .ok (.aload_n 0, 1) := by decide +kernel
theorem dL_law_667 : decode cL_law 667 = .ok (.iload_n 3, 1) := by decide +kernel
theorem dL_law_668 : decode cL_law 668 = .ok (.iconst 1, 1) := by decide +kernel
theorem dL_law_669 : decode cL_law 669 = .ok (.iadd, 1) := by decide +kernel
theorem dL_law_670 : decode cL_law 670 = .ok (.iaload, 1) := by decide +kernel
theorem dL_law_671 : decode cL_law 671 = .ok (.aload_n 0, 1) := by decide +kernel
theorem dL_law_672 : decode cL_law 672 = .ok (.iload_n 3, 1) := by decide +kernel
theorem dL_law_673 : decode cL_law 673 = .ok (.iconst 2, 1) := by decide +kernel
theorem dL_law_674 : decode cL_law 674 = .ok (.iadd, 1) := by decide +kernel
theorem dL_law_675 : decode cL_law 675 = .ok (.iaload, 1) := by decide +kernel
theorem dL_law_676 : decode cL_law 676 = .ok (.aload_n 0, 1) := by decide +kernel
theorem dL_law_677 : decode cL_law 677 = .ok (.iload_n 3, 1) := by decide +kernel
theorem dL_law_678 : decode cL_law 678 = .ok (.iconst 3, 1) := by decide +kernel
theorem dL_law_679 : decode cL_law 679 = .ok (.iadd, 1) := by decide +kernel
theorem dL_law_680 : decode cL_law 680 = .ok (.iaload, 1) := by decide +kernel
theorem dL_law_681 : decode cL_law 681 = .ok (.invokevirtual 84, 3) := by decide +kernel
theorem dL_law_684 : decode cL_law 684 = .ok (.if_icmp .eq 683, 3) := by decide +kernel
theorem dL_law_687 : decode cL_law 687 = .ok (.iconst 0, 1) := by decide +kernel
theorem dL_law_688 : decode cL_law 688 = .ok (.ireturn, 1) := by decide +kernel
theorem dL_law_689 : decode cL_law 689 = .ok (.aload_n 1, 1) := by decide +kernel
theorem dL_law_690 : decode cL_law 690 = .ok (.aload_n 0, 1) := by decide +kernel
theorem dL_law_691 : decode cL_law 691 = .ok (.iload_n 3, 1) := by decide +kernel
theorem dL_law_692 : decode cL_law 692 = .ok (.iconst 1, 1) := by decide +kernel
theorem dL_law_693 : decode cL_law 693 = .ok (.iadd, 1) := by decide +kernel
theorem dL_law_694 : decode cL_law 694 = .ok (.iaload, 1) := by decide +kernel
theorem dL_law_695 : decode cL_law 695 = .ok (.aload_n 0, 1) := by decide +kernel
theorem dL_law_696 : decode cL_law 696 = .ok (.iload_n 3, 1) := by decide +kernel
theorem dL_law_697 : decode cL_law 697 = .ok (.iconst 2, 1) := by decide +kernel
theorem dL_law_698 : decode cL_law 698 = .ok (.iadd, 1) := by decide +kernel
theorem dL_law_699 : decode cL_law 699 = .ok (.iaload, 1) := by decide +kernel
theorem dL_law_700 : decode cL_law 700 = .ok (.invokevirtual 85, 3) := by decide +kernel
theorem dL_law_703 : decode cL_law 703 = .ok (.aload_n 2, 1) := by decide +kernel
theorem dL_law_704 : decode cL_law 704 = .ok (.aload_n 0, 1) := by decide +kernel
theorem dL_law_705 : decode cL_law 705 = .ok (.iload_n 3, 1) := by decide +kernel
theorem dL_law_706 : decode cL_law 706 = .ok (.iconst 1, 1) := by decide +kernel
theorem dL_law_707 : decode cL_law 707 = .ok (.iadd, 1) := by decide +kernel
theorem dL_law_708 : decode cL_law 708 = .ok (.iaload, 1) := by decide +kernel
theorem dL_law_709 : decode cL_law 709 = .ok (.aload_n 0, 1) := by decide +kernel
theorem dL_law_710 : decode cL_law 710 = .ok (.iload_n 3, 1) := by decide +kernel
theorem dL_law_711 : decode cL_law 711 = .ok (.iconst 2, 1) := by decide +kernel
theorem dL_law_712 : decode cL_law 712 = .ok (.iadd, 1) := by decide +kernel
theorem dL_law_713 : decode cL_law 713 = .ok (.iaload, 1) := by decide +kernel
theorem dL_law_714 : decode cL_law 714 = .ok (.invokevirtual 88, 3) := by decide +kernel
theorem dL_law_717 : decode cL_law 717 = .ok (.if_icmp .eq 650, 3) := by decide +kernel
theorem dL_law_720 : decode cL_law 720 = .ok (.iconst 0, 1) := by decide +kernel
theorem dL_law_721 : decode cL_law 721 = .ok (.ireturn, 1) := by decide +kernel
theorem dL_law_722 : decode cL_law 722 = .ok (.aload_n 1, 1) := by decide +kernel
theorem dL_law_723 : decode cL_law 723 = .ok (.invokevirtual 89, 3) := by decide +kernel
theorem dL_law_726 : decode cL_law 726 = .ok (.aload_n 2, 1) := by decide +kernel
theorem dL_law_727 : decode cL_law 727 = .ok (.invokevirtual 92, 3) := by decide +kernel
theorem dL_law_730 : decode cL_law 730 = .ok (.if_icmp .eq 637, 3) := by decide +kernel
theorem dL_law_733 : decode cL_law 733 = .ok (.iconst 0, 1) := by decide +kernel
theorem dL_law_734 : decode cL_law 734 = .ok (.ireturn, 1) := by decide +kernel
theorem dL_law_735 : decode cL_law 735 = .ok (.aload_n 1, 1) := by decide +kernel
theorem dL_law_736 : decode cL_law 736 = .ok (.invokevirtual 93, 3) := by decide +kernel
theorem dL_law_739 : decode cL_law 739 = .ok (.aload_n 2, 1) := by decide +kernel
theorem dL_law_740 : decode cL_law 740 = .ok (.invokevirtual 96, 3) := by decide +kernel
theorem dL_law_743 : decode cL_law 743 = .ok (.if_icmp .eq 624, 3) := by decide +kernel
theorem dL_law_746 : decode cL_law 746 = .ok (.iconst 0, 1) := by decide +kernel
theorem dL_law_747 : decode cL_law 747 = .ok (.ireturn, 1) := by decide +kernel
theorem dL_law_748 : decode cL_law 748 = .ok (.aload_n 1, 1) := by decide +kernel
theorem dL_law_749 : decode cL_law 749 = .ok (.aload_n 0, 1) := by decide +kernel
theorem dL_law_750 : decode cL_law 750 = .ok (.iload_n 3, 1) := by decide +kernel
theorem dL_law_751 : decode cL_law 751 = .ok (.iconst 1, 1) := by decide +kernel
theorem dL_law_752 : decode cL_law 752 = .ok (.iadd, 1) := by decide +kernel
theorem dL_law_753 : decode cL_law 753 = .ok (.iaload, 1) := by decide +kernel
theorem dL_law_754 : decode cL_law 754 = .ok (.invokevirtual 97, 3) := by decide +kernel
theorem dL_law_757 : decode cL_law 757 = .ok (.aload_n 2, 1) := by decide +kernel
theorem dL_law_758 : decode cL_law 758 = .ok (.aload_n 0, 1) := by decide +kernel
theorem dL_law_759 : decode cL_law 759 = .ok (.iload_n 3, 1) := by decide +kernel
theorem dL_law_760 : decode cL_law 760 = .ok (.iconst 1, 1) := by decide +kernel
theorem dL_law_761 : decode cL_law 761 = .ok (.iadd, 1) := by decide +kernel
theorem dL_law_762 : decode cL_law 762 = .ok (.iaload, 1) := by decide +kernel
theorem dL_law_763 : decode cL_law 763 = .ok (.invokevirtual 100, 3) := by decide +kernel
theorem dL_law_766 : decode cL_law 766 = .ok (.if_icmp .eq 601, 3) := by decide +kernel
theorem dL_law_769 : decode cL_law 769 = .ok (.iconst 0, 1) := by decide +kernel
theorem dL_law_770 : decode cL_law 770 = .ok (.ireturn, 1) := by decide +kernel
theorem dL_law_771 : decode cL_law 771 = .ok (.aload_n 1, 1) := by decide +kernel
theorem dL_law_772 : decode cL_law 772 = .ok (.aload_n 0, 1) := by decide +kernel
theorem dL_law_773 : decode cL_law 773 = .ok (.iload_n 3, 1) := by decide +kernel
theorem dL_law_774 : decode cL_law 774 = .ok (.iconst 1, 1) := by decide +kernel
theorem dL_law_775 : decode cL_law 775 = .ok (.iadd, 1) := by decide +kernel
theorem dL_law_776 : decode cL_law 776 = .ok (.iaload, 1) := by decide +kernel
theorem dL_law_777 : decode cL_law 777 = .ok (.aload_n 0, 1) := by decide +kernel
theorem dL_law_778 : decode cL_law 778 = .ok (.iload_n 3, 1) := by decide +kernel
theorem dL_law_779 : decode cL_law 779 = .ok (.iconst 2, 1) := by decide +kernel
theorem dL_law_780 : decode cL_law 780 = .ok (.iadd, 1) := by decide +kernel
theorem dL_law_781 : decode cL_law 781 = .ok (.iaload, 1) := by decide +kernel
theorem dL_law_782 : decode cL_law 782 = .ok (.invokevirtual 101, 3) := by decide +kernel
theorem dL_law_785 : decode cL_law 785 = .ok (.aload_n 2, 1) := by decide +kernel
theorem dL_law_786 : decode cL_law 786 = .ok (.aload_n 0, 1) := by decide +kernel
theorem dL_law_787 : decode cL_law 787 = .ok (.iload_n 3, 1) := by decide +kernel
theorem dL_law_788 : decode cL_law 788 = .ok (.iconst 1, 1) := by decide +kernel
theorem dL_law_789 : decode cL_law 789 = .ok (.iadd, 1) := by decide +kernel
theorem dL_law_790 : decode cL_law 790 = .ok (.iaload, 1) := by decide +kernel
theorem dL_law_791 : decode cL_law 791 = .ok (.aload_n 0, 1) := by decide +kernel
theorem dL_law_792 : decode cL_law 792 = .ok (.iload_n 3, 1) := by decide +kernel
theorem dL_law_793 : decode cL_law 793 = .ok (.iconst 2, 1) := by decide +kernel
theorem dL_law_794 : decode cL_law 794 = .ok (.iadd, 1) := by decide +kernel
theorem dL_law_795 : decode cL_law 795 = .ok (.iaload, 1) := by decide +kernel
theorem dL_law_796 : decode cL_law 796 = .ok (.invokevirtual 104, 3) := by decide +kernel
theorem dL_law_799 : decode cL_law 799 = .ok (.if_icmp .eq 568, 3) := by decide +kernel
theorem dL_law_802 : decode cL_law 802 = .ok (.iconst 0, 1) := by decide +kernel
theorem dL_law_803 : decode cL_law 803 = .ok (.ireturn, 1) := by decide +kernel
theorem dL_law_804 : decode cL_law 804 = .ok (.aload_n 1, 1) := by decide +kernel
theorem dL_law_805 : decode cL_law 805 = .ok (.aload_n 0, 1) := by decide +kernel
theorem dL_law_806 : decode cL_law 806 = .ok (.iload_n 3, 1) := by decide +kernel
theorem dL_law_807 : decode cL_law 807 = .ok (.iconst 1, 1) := by decide +kernel
theorem dL_law_808 : decode cL_law 808 = .ok (.iadd, 1) := by decide +kernel
theorem dL_law_809 : decode cL_law 809 = .ok (.iaload, 1) := by decide +kernel
theorem dL_law_810 : decode cL_law 810 = .ok (.invokevirtual 105, 3) := by decide +kernel
theorem dL_law_813 : decode cL_law 813 = .ok (.aload_n 2, 1) := by decide +kernel
theorem dL_law_814 : decode cL_law 814 = .ok (.aload_n 0, 1) := by decide +kernel
theorem dL_law_815 : decode cL_law 815 = .ok (.iload_n 3, 1) := by decide +kernel
theorem dL_law_816 : decode cL_law 816 = .ok (.iconst 1, 1) := by decide +kernel
theorem dL_law_817 : decode cL_law 817 = .ok (.iadd, 1) := by decide +kernel
theorem dL_law_818 : decode cL_law 818 = .ok (.iaload, 1) := by decide +kernel
theorem dL_law_819 : decode cL_law 819 = .ok (.invokevirtual 108, 3) := by decide +kernel
theorem dL_law_822 : decode cL_law 822 = .ok (.if_icmp .eq 545, 3) := by decide +kernel
theorem dL_law_825 : decode cL_law 825 = .ok (.iconst 0, 1) := by decide +kernel
theorem dL_law_826 : decode cL_law 826 = .ok (.ireturn, 1) := by decide +kernel
theorem dL_law_827 : decode cL_law 827 = .ok (.aload_n 1, 1) := by decide +kernel
theorem dL_law_828 : decode cL_law 828 = .ok (.aload_n 0, 1) := by decide +kernel
theorem dL_law_829 : decode cL_law 829 = .ok (.iload_n 3, 1) := by decide +kernel
theorem dL_law_830 : decode cL_law 830 = .ok (.iconst 1, 1) := by decide +kernel
theorem dL_law_831 : decode cL_law 831 = .ok (.iadd, 1) := by decide +kernel
theorem dL_law_832 : decode cL_law 832 = .ok (.iaload, 1) := by decide +kernel
theorem dL_law_833 : decode cL_law 833 = .ok (.invokevirtual 109, 3) := by decide +kernel
theorem dL_law_836 : decode cL_law 836 = .ok (.aload_n 2, 1) := by decide +kernel
theorem dL_law_837 : decode cL_law 837 = .ok (.aload_n 0, 1) := by decide +kernel
theorem dL_law_838 : decode cL_law 838 = .ok (.iload_n 3, 1) := by decide +kernel
theorem dL_law_839 : decode cL_law 839 = .ok (.iconst 1, 1) := by decide +kernel
theorem dL_law_840 : decode cL_law 840 = .ok (.iadd, 1) := by decide +kernel
theorem dL_law_841 : decode cL_law 841 = .ok (.iaload, 1) := by decide +kernel
theorem dL_law_842 : decode cL_law 842 = .ok (.invokevirtual 112, 3) := by decide +kernel
theorem dL_law_845 : decode cL_law 845 = .ok (.if_icmp .eq 522, 3) := by decide +kernel
theorem dL_law_848 : decode cL_law 848 = .ok (.iconst 0, 1) := by decide +kernel
theorem dL_law_849 : decode cL_law 849 = .ok (.ireturn, 1) := by decide +kernel
theorem dL_law_850 : decode cL_law 850 = .ok (.aload_n 1, 1) := by decide +kernel
theorem dL_law_851 : decode cL_law 851 = .ok (.aload_n 0, 1) := by decide +kernel
theorem dL_law_852 : decode cL_law 852 = .ok (.iload_n 3, 1) := by decide +kernel
theorem dL_law_853 : decode cL_law 853 = .ok (.iconst 1, 1) := by decide +kernel
theorem dL_law_854 : decode cL_law 854 = .ok (.iadd, 1) := by decide +kernel
theorem dL_law_855 : decode cL_law 855 = .ok (.iaload, 1) := by decide +kernel
theorem dL_law_856 : decode cL_law 856 = .ok (.aload_n 0, 1) := by decide +kernel
theorem dL_law_857 : decode cL_law 857 = .ok (.iload_n 3, 1) := by decide +kernel
theorem dL_law_858 : decode cL_law 858 = .ok (.iconst 2, 1) := by decide +kernel
theorem dL_law_859 : decode cL_law 859 = .ok (.iadd, 1) := by decide +kernel
theorem dL_law_860 : decode cL_law 860 = .ok (.iaload, 1) := by decide +kernel
theorem dL_law_861 : decode cL_law 861 = .ok (.invokevirtual 113, 3) := by decide +kernel
theorem dL_law_864 : decode cL_law 864 = .ok (.aload_n 2, 1) := by decide +kernel
theorem dL_law_865 : decode cL_law 865 = .ok (.aload_n 0, 1) := by decide +kernel
theorem dL_law_866 : decode cL_law 866 = .ok (.iload_n 3, 1) := by decide +kernel
theorem dL_law_867 : decode cL_law 867 = .ok (.iconst 1, 1) := by decide +kernel
theorem dL_law_868 : decode cL_law 868 = .ok (.iadd, 1) := by decide +kernel
theorem dL_law_869 : decode cL_law 869 = .ok (.iaload, 1) := by decide +kernel
theorem dL_law_870 : decode cL_law 870 = .ok (.aload_n 0, 1) := by decide +kernel
theorem dL_law_871 : decode cL_law 871 = .ok (.iload_n 3, 1) := by decide +kernel
theorem dL_law_872 : decode cL_law 872 = .ok (.iconst 2, 1) := by decide +kernel
theorem dL_law_873 : decode cL_law 873 = .ok (.iadd, 1) := by decide +kernel
theorem dL_law_874 : decode cL_law 874 = .ok (.iaload, 1) := by decide +kernel
theorem dL_law_875 : decode cL_law 875 = .ok (.invokevirtual 117, 3) := by decide +kernel
theorem dL_law_878 : decode cL_law 878 = .ok (.lcmp, 1) := by decide +kernel
theorem dL_law_879 : decode cL_law 879 = .ok (.ifCond .eq 488, 3) := by decide +kernel
theorem dL_law_882 : decode cL_law 882 = .ok (.iconst 0, 1) := by decide +kernel
theorem dL_law_883 : decode cL_law 883 = .ok (.ireturn, 1) := by decide +kernel
theorem dL_law_884 : decode cL_law 884 = .ok (.aload_n 1, 1) := by decide +kernel
theorem dL_law_885 : decode cL_law 885 = .ok (.aload_n 0, 1) := by decide +kernel
theorem dL_law_886 : decode cL_law 886 = .ok (.iload_n 3, 1) := by decide +kernel
theorem dL_law_887 : decode cL_law 887 = .ok (.iconst 1, 1) := by decide +kernel
theorem dL_law_888 : decode cL_law 888 = .ok (.iadd, 1) := by decide +kernel
theorem dL_law_889 : decode cL_law 889 = .ok (.iaload, 1) := by decide +kernel
theorem dL_law_890 : decode cL_law 890 = .ok (.invokevirtual 118, 3) := by decide +kernel
theorem dL_law_893 : decode cL_law 893 = .ok (.aload_n 2, 1) := by decide +kernel
theorem dL_law_894 : decode cL_law 894 = .ok (.aload_n 0, 1) := by decide +kernel
theorem dL_law_895 : decode cL_law 895 = .ok (.iload_n 3, 1) := by decide +kernel
theorem dL_law_896 : decode cL_law 896 = .ok (.iconst 1, 1) := by decide +kernel
theorem dL_law_897 : decode cL_law 897 = .ok (.iadd, 1) := by decide +kernel
theorem dL_law_898 : decode cL_law 898 = .ok (.iaload, 1) := by decide +kernel
theorem dL_law_899 : decode cL_law 899 = .ok (.invokevirtual 121, 3) := by decide +kernel
theorem dL_law_902 : decode cL_law 902 = .ok (.if_icmp .eq 465, 3) := by decide +kernel
theorem dL_law_905 : decode cL_law 905 = .ok (.iconst 0, 1) := by decide +kernel
theorem dL_law_906 : decode cL_law 906 = .ok (.ireturn, 1) := by decide +kernel
theorem dL_law_907 : decode cL_law 907 = .ok (.aload_n 1, 1) := by decide +kernel
theorem dL_law_908 : decode cL_law 908 = .ok (.aload_n 0, 1) := by decide +kernel
theorem dL_law_909 : decode cL_law 909 = .ok (.iload_n 3, 1) := by decide +kernel
theorem dL_law_910 : decode cL_law 910 = .ok (.iconst 1, 1) := by decide +kernel
theorem dL_law_911 : decode cL_law 911 = .ok (.iadd, 1) := by decide +kernel
theorem dL_law_912 : decode cL_law 912 = .ok (.iaload, 1) := by decide +kernel
theorem dL_law_913 : decode cL_law 913 = .ok (.aload_n 0, 1) := by decide +kernel
theorem dL_law_914 : decode cL_law 914 = .ok (.iload_n 3, 1) := by decide +kernel
theorem dL_law_915 : decode cL_law 915 = .ok (.iconst 2, 1) := by decide +kernel
theorem dL_law_916 : decode cL_law 916 = .ok (.iadd, 1) := by decide +kernel
theorem dL_law_917 : decode cL_law 917 = .ok (.iaload, 1) := by decide +kernel
theorem dL_law_918 : decode cL_law 918 = .ok (.invokevirtual 122, 3) := by decide +kernel
theorem dL_law_921 : decode cL_law 921 = .ok (.aload_n 2, 1) := by decide +kernel
theorem dL_law_922 : decode cL_law 922 = .ok (.aload_n 0, 1) := by decide +kernel
theorem dL_law_923 : decode cL_law 923 = .ok (.iload_n 3, 1) := by decide +kernel
theorem dL_law_924 : decode cL_law 924 = .ok (.iconst 1, 1) := by decide +kernel
theorem dL_law_925 : decode cL_law 925 = .ok (.iadd, 1) := by decide +kernel
theorem dL_law_926 : decode cL_law 926 = .ok (.iaload, 1) := by decide +kernel
theorem dL_law_927 : decode cL_law 927 = .ok (.aload_n 0, 1) := by decide +kernel
theorem dL_law_928 : decode cL_law 928 = .ok (.iload_n 3, 1) := by decide +kernel
theorem dL_law_929 : decode cL_law 929 = .ok (.iconst 2, 1) := by decide +kernel
theorem dL_law_930 : decode cL_law 930 = .ok (.iadd, 1) := by decide +kernel
theorem dL_law_931 : decode cL_law 931 = .ok (.iaload, 1) := by decide +kernel
theorem dL_law_932 : decode cL_law 932 = .ok (.invokevirtual 125, 3) := by decide +kernel
theorem dL_law_935 : decode cL_law 935 = .ok (.lcmp, 1) := by decide +kernel
theorem dL_law_936 : decode cL_law 936 = .ok (.ifCond .eq 431, 3) := by decide +kernel
theorem dL_law_939 : decode cL_law 939 = .ok (.iconst 0, 1) := by decide +kernel
theorem dL_law_940 : decode cL_law 940 = .ok (.ireturn, 1) := by decide +kernel
theorem dL_law_941 : decode cL_law 941 = .ok (.aload_n 1, 1) := by decide +kernel
theorem dL_law_942 : decode cL_law 942 = .ok (.aload_n 0, 1) := by decide +kernel
theorem dL_law_943 : decode cL_law 943 = .ok (.iload_n 3, 1) := by decide +kernel
theorem dL_law_944 : decode cL_law 944 = .ok (.iconst 1, 1) := by decide +kernel
theorem dL_law_945 : decode cL_law 945 = .ok (.iadd, 1) := by decide +kernel
theorem dL_law_946 : decode cL_law 946 = .ok (.iaload, 1) := by decide +kernel
theorem dL_law_947 : decode cL_law 947 = .ok (.aload_n 0, 1) := by decide +kernel
theorem dL_law_948 : decode cL_law 948 = .ok (.iload_n 3, 1) := by decide +kernel
theorem dL_law_949 : decode cL_law 949 = .ok (.iconst 2, 1) := by decide +kernel
theorem dL_law_950 : decode cL_law 950 = .ok (.iadd, 1) := by decide +kernel
theorem dL_law_951 : decode cL_law 951 = .ok (.iaload, 1) := by decide +kernel
theorem dL_law_952 : decode cL_law 952 = .ok (.invokevirtual 126, 3) := by decide +kernel
theorem dL_law_955 : decode cL_law 955 = .ok (.aload_n 2, 1) := by decide +kernel
theorem dL_law_956 : decode cL_law 956 = .ok (.aload_n 0, 1) := by decide +kernel
theorem dL_law_957 : decode cL_law 957 = .ok (.iload_n 3, 1) := by decide +kernel
theorem dL_law_958 : decode cL_law 958 = .ok (.iconst 1, 1) := by decide +kernel
theorem dL_law_959 : decode cL_law 959 = .ok (.iadd, 1) := by decide +kernel
theorem dL_law_960 : decode cL_law 960 = .ok (.iaload, 1) := by decide +kernel
theorem dL_law_961 : decode cL_law 961 = .ok (.aload_n 0, 1) := by decide +kernel
theorem dL_law_962 : decode cL_law 962 = .ok (.iload_n 3, 1) := by decide +kernel
theorem dL_law_963 : decode cL_law 963 = .ok (.iconst 2, 1) := by decide +kernel
theorem dL_law_964 : decode cL_law 964 = .ok (.iadd, 1) := by decide +kernel
theorem dL_law_965 : decode cL_law 965 = .ok (.iaload, 1) := by decide +kernel
theorem dL_law_966 : decode cL_law 966 = .ok (.invokevirtual 129, 3) := by decide +kernel
theorem dL_law_969 : decode cL_law 969 = .ok (.lcmp, 1) := by decide +kernel
theorem dL_law_970 : decode cL_law 970 = .ok (.ifCond .eq 397, 3) := by decide +kernel
theorem dL_law_973 : decode cL_law 973 = .ok (.iconst 0, 1) := by decide +kernel
theorem dL_law_974 : decode cL_law 974 = .ok (.ireturn, 1) := by decide +kernel
theorem dL_law_975 : decode cL_law 975 = .ok (.aload_n 1, 1) := by decide +kernel
theorem dL_law_976 : decode cL_law 976 = .ok (.aload_n 0, 1) := by decide +kernel
theorem dL_law_977 : decode cL_law 977 = .ok (.iload_n 3, 1) := by decide +kernel
theorem dL_law_978 : decode cL_law 978 = .ok (.iconst 1, 1) := by decide +kernel
theorem dL_law_979 : decode cL_law 979 = .ok (.iadd, 1) := by decide +kernel
theorem dL_law_980 : decode cL_law 980 = .ok (.iaload, 1) := by decide +kernel
theorem dL_law_981 : decode cL_law 981 = .ok (.aload_n 0, 1) := by decide +kernel
theorem dL_law_982 : decode cL_law 982 = .ok (.iload_n 3, 1) := by decide +kernel
theorem dL_law_983 : decode cL_law 983 = .ok (.iconst 2, 1) := by decide +kernel
theorem dL_law_984 : decode cL_law 984 = .ok (.iadd, 1) := by decide +kernel
theorem dL_law_985 : decode cL_law 985 = .ok (.iaload, 1) := by decide +kernel
theorem dL_law_986 : decode cL_law 986 = .ok (.aload_n 0, 1) := by decide +kernel
theorem dL_law_987 : decode cL_law 987 = .ok (.iload_n 3, 1) := by decide +kernel
theorem dL_law_988 : decode cL_law 988 = .ok (.iconst 3, 1) := by decide +kernel
theorem dL_law_989 : decode cL_law 989 = .ok (.iadd, 1) := by decide +kernel
theorem dL_law_990 : decode cL_law 990 = .ok (.iaload, 1) := by decide +kernel
theorem dL_law_991 : decode cL_law 991 = .ok (.ifCond .eq 7, 3) := by decide +kernel
theorem dL_law_994 : decode cL_law 994 = .ok (.iconst 1, 1) := by decide +kernel
theorem dL_law_995 : decode cL_law 995 = .ok (.goto 4, 3) := by decide +kernel
theorem dL_law_998 : decode cL_law 998 = .ok (.iconst 0, 1) := by decide +kernel
theorem dL_law_999 : decode cL_law 999 = .ok (.invokevirtual 130, 3) := by decide +kernel
theorem dL_law_1002 : decode cL_law 1002 = .ok (.aload_n 2, 1) := by decide +kernel
theorem dL_law_1003 : decode cL_law 1003 = .ok (.aload_n 0, 1) := by decide +kernel
theorem dL_law_1004 : decode cL_law 1004 = .ok (.iload_n 3, 1) := by decide +kernel
theorem dL_law_1005 : decode cL_law 1005 = .ok (.iconst 1, 1) := by decide +kernel
theorem dL_law_1006 : decode cL_law 1006 = .ok (.iadd, 1) := by decide +kernel
theorem dL_law_1007 : decode cL_law 1007 = .ok (.iaload, 1) := by decide +kernel
theorem dL_law_1008 : decode cL_law 1008 = .ok (.aload_n 0, 1) := by decide +kernel
theorem dL_law_1009 : decode cL_law 1009 = .ok (.iload_n 3, 1) := by decide +kernel
theorem dL_law_1010 : decode cL_law 1010 = .ok (.iconst 2, 1) := by decide +kernel
theorem dL_law_1011 : decode cL_law 1011 = .ok (.iadd, 1) := by decide +kernel
theorem dL_law_1012 : decode cL_law 1012 = .ok (.iaload, 1) := by decide +kernel
theorem dL_law_1013 : decode cL_law 1013 = .ok (.aload_n 0, 1) := by decide +kernel
theorem dL_law_1014 : decode cL_law 1014 = .ok (.iload_n 3, 1) := by decide +kernel
theorem dL_law_1015 : decode cL_law 1015 = .ok (.iconst 3, 1) := by decide +kernel
theorem dL_law_1016 : decode cL_law 1016 = .ok (.iadd, 1) := by decide +kernel
theorem dL_law_1017 : decode cL_law 1017 = .ok (.iaload, 1) := by decide +kernel
theorem dL_law_1018 : decode cL_law 1018 = .ok (.ifCond .eq 7, 3) := by decide +kernel
theorem dL_law_1021 : decode cL_law 1021 = .ok (.iconst 1, 1) := by decide +kernel
theorem dL_law_1022 : decode cL_law 1022 = .ok (.goto 4, 3) := by decide +kernel
theorem dL_law_1025 : decode cL_law 1025 = .ok (.iconst 0, 1) := by decide +kernel
theorem dL_law_1026 : decode cL_law 1026 = .ok (.invokevirtual 134, 3) := by decide +kernel
theorem dL_law_1029 : decode cL_law 1029 = .ok (.if_icmp .eq 338, 3) := by decide +kernel
theorem dL_law_1032 : decode cL_law 1032 = .ok (.iconst 0, 1) := by decide +kernel
theorem dL_law_1033 : decode cL_law 1033 = .ok (.ireturn, 1) := by decide +kernel
theorem dL_law_1034 : decode cL_law 1034 = .ok (.aload_n 1, 1) := by decide +kernel
theorem dL_law_1035 : decode cL_law 1035 = .ok (.aload_n 0, 1) := by decide +kernel
theorem dL_law_1036 : decode cL_law 1036 = .ok (.iload_n 3, 1) := by decide +kernel
theorem dL_law_1037 : decode cL_law 1037 = .ok (.iconst 1, 1) := by decide +kernel
theorem dL_law_1038 : decode cL_law 1038 = .ok (.iadd, 1) := by decide +kernel
theorem dL_law_1039 : decode cL_law 1039 = .ok (.iaload, 1) := by decide +kernel
theorem dL_law_1040 : decode cL_law 1040 = .ok (.invokevirtual 135, 3) := by decide +kernel
theorem dL_law_1043 : decode cL_law 1043 = .ok (.aload_n 2, 1) := by decide +kernel
theorem dL_law_1044 : decode cL_law 1044 = .ok (.aload_n 0, 1) := by decide +kernel
theorem dL_law_1045 : decode cL_law 1045 = .ok (.iload_n 3, 1) := by decide +kernel
theorem dL_law_1046 : decode cL_law 1046 = .ok (.iconst 1, 1) := by decide +kernel
theorem dL_law_1047 : decode cL_law 1047 = .ok (.iadd, 1) := by decide +kernel
theorem dL_law_1048 : decode cL_law 1048 = .ok (.iaload, 1) := by decide +kernel
theorem dL_law_1049 : decode cL_law 1049 = .ok (.invokevirtual 138, 3) := by decide +kernel
theorem dL_law_1052 : decode cL_law 1052 = .ok (.if_icmp .eq 315, 3) := by decide +kernel
theorem dL_law_1055 : decode cL_law 1055 = .ok (.iconst 0, 1) := by decide +kernel
theorem dL_law_1056 : decode cL_law 1056 = .ok (.ireturn, 1) := by decide +kernel
theorem dL_law_1057 : decode cL_law 1057 = .ok (.aload_n 1, 1) := by decide +kernel
theorem dL_law_1058 : decode cL_law 1058 = .ok (.aload_n 0, 1) := by decide +kernel
theorem dL_law_1059 : decode cL_law 1059 = .ok (.iload_n 3, 1) := by decide +kernel
theorem dL_law_1060 : decode cL_law 1060 = .ok (.iconst 1, 1) := by decide +kernel
theorem dL_law_1061 : decode cL_law 1061 = .ok (.iadd, 1) := by decide +kernel
theorem dL_law_1062 : decode cL_law 1062 = .ok (.iaload, 1) := by decide +kernel
theorem dL_law_1063 : decode cL_law 1063 = .ok (.invokevirtual 139, 3) := by decide +kernel
theorem dL_law_1066 : decode cL_law 1066 = .ok (.aload_n 2, 1) := by decide +kernel
theorem dL_law_1067 : decode cL_law 1067 = .ok (.aload_n 0, 1) := by decide +kernel
theorem dL_law_1068 : decode cL_law 1068 = .ok (.iload_n 3, 1) := by decide +kernel
theorem dL_law_1069 : decode cL_law 1069 = .ok (.iconst 1, 1) := by decide +kernel
theorem dL_law_1070 : decode cL_law 1070 = .ok (.iadd, 1) := by decide +kernel
theorem dL_law_1071 : decode cL_law 1071 = .ok (.iaload, 1) := by decide +kernel
theorem dL_law_1072 : decode cL_law 1072 = .ok (.invokevirtual 142, 3) := by decide +kernel
theorem dL_law_1075 : decode cL_law 1075 = .ok (.if_icmp .eq 292, 3) := by decide +kernel
theorem dL_law_1078 : decode cL_law 1078 = .ok (.iconst 0, 1) := by decide +kernel
theorem dL_law_1079 : decode cL_law 1079 = .ok (.ireturn, 1) := by decide +kernel
theorem dL_law_1080 : decode cL_law 1080 = .ok (.aload_n 1, 1) := by decide +kernel
theorem dL_law_1081 : decode cL_law 1081 = .ok (.aload_n 0, 1) := by decide +kernel
theorem dL_law_1082 : decode cL_law 1082 = .ok (.iload_n 3, 1) := by decide +kernel
theorem dL_law_1083 : decode cL_law 1083 = .ok (.iconst 1, 1) := by decide +kernel
theorem dL_law_1084 : decode cL_law 1084 = .ok (.iadd, 1) := by decide +kernel
theorem dL_law_1085 : decode cL_law 1085 = .ok (.iaload, 1) := by decide +kernel
theorem dL_law_1086 : decode cL_law 1086 = .ok (.invokevirtual 143, 3) := by decide +kernel
theorem dL_law_1089 : decode cL_law 1089 = .ok (.aload_n 2, 1) := by decide +kernel
theorem dL_law_1090 : decode cL_law 1090 = .ok (.aload_n 0, 1) := by decide +kernel
theorem dL_law_1091 : decode cL_law 1091 = .ok (.iload_n 3, 1) := by decide +kernel
theorem dL_law_1092 : decode cL_law 1092 = .ok (.iconst 1, 1) := by decide +kernel
theorem dL_law_1093 : decode cL_law 1093 = .ok (.iadd, 1) := by decide +kernel
theorem dL_law_1094 : decode cL_law 1094 = .ok (.iaload, 1) := by decide +kernel
theorem dL_law_1095 : decode cL_law 1095 = .ok (.invokevirtual 146, 3) := by decide +kernel
theorem dL_law_1098 : decode cL_law 1098 = .ok (.if_icmp .eq 269, 3) := by decide +kernel
theorem dL_law_1101 : decode cL_law 1101 = .ok (.iconst 0, 1) := by decide +kernel
theorem dL_law_1102 : decode cL_law 1102 = .ok (.ireturn, 1) := by decide +kernel
theorem dL_law_1103 : decode cL_law 1103 = .ok (.aload_n 1, 1) := by decide +kernel
theorem dL_law_1104 : decode cL_law 1104 = .ok (.aload_n 0, 1) := by decide +kernel
theorem dL_law_1105 : decode cL_law 1105 = .ok (.iload_n 3, 1) := by decide +kernel
theorem dL_law_1106 : decode cL_law 1106 = .ok (.iconst 1, 1) := by decide +kernel
theorem dL_law_1107 : decode cL_law 1107 = .ok (.iadd, 1) := by decide +kernel
theorem dL_law_1108 : decode cL_law 1108 = .ok (.iaload, 1) := by decide +kernel
theorem dL_law_1109 : decode cL_law 1109 = .ok (.aload_n 0, 1) := by decide +kernel
theorem dL_law_1110 : decode cL_law 1110 = .ok (.iload_n 3, 1) := by decide +kernel
theorem dL_law_1111 : decode cL_law 1111 = .ok (.iconst 2, 1) := by decide +kernel
theorem dL_law_1112 : decode cL_law 1112 = .ok (.iadd, 1) := by decide +kernel
theorem dL_law_1113 : decode cL_law 1113 = .ok (.iaload, 1) := by decide +kernel
theorem dL_law_1114 : decode cL_law 1114 = .ok (.aload_n 0, 1) := by decide +kernel
theorem dL_law_1115 : decode cL_law 1115 = .ok (.iload_n 3, 1) := by decide +kernel
theorem dL_law_1116 : decode cL_law 1116 = .ok (.iconst 3, 1) := by decide +kernel
theorem dL_law_1117 : decode cL_law 1117 = .ok (.iadd, 1) := by decide +kernel
theorem dL_law_1118 : decode cL_law 1118 = .ok (.iaload, 1) := by decide +kernel
theorem dL_law_1119 : decode cL_law 1119 = .ok (.invokevirtual 147, 3) := by decide +kernel
theorem dL_law_1122 : decode cL_law 1122 = .ok (.aload_n 2, 1) := by decide +kernel
theorem dL_law_1123 : decode cL_law 1123 = .ok (.aload_n 0, 1) := by decide +kernel
theorem dL_law_1124 : decode cL_law 1124 = .ok (.iload_n 3, 1) := by decide +kernel
theorem dL_law_1125 : decode cL_law 1125 = .ok (.iconst 1, 1) := by decide +kernel
theorem dL_law_1126 : decode cL_law 1126 = .ok (.iadd, 1) := by decide +kernel
theorem dL_law_1127 : decode cL_law 1127 = .ok (.iaload, 1) := by decide +kernel
theorem dL_law_1128 : decode cL_law 1128 = .ok (.aload_n 0, 1) := by decide +kernel
theorem dL_law_1129 : decode cL_law 1129 = .ok (.iload_n 3, 1) := by decide +kernel
theorem dL_law_1130 : decode cL_law 1130 = .ok (.iconst 2, 1) := by decide +kernel
theorem dL_law_1131 : decode cL_law 1131 = .ok (.iadd, 1) := by decide +kernel
theorem dL_law_1132 : decode cL_law 1132 = .ok (.iaload, 1) := by decide +kernel
theorem dL_law_1133 : decode cL_law 1133 = .ok (.aload_n 0, 1) := by decide +kernel
theorem dL_law_1134 : decode cL_law 1134 = .ok (.iload_n 3, 1) := by decide +kernel
theorem dL_law_1135 : decode cL_law 1135 = .ok (.iconst 3, 1) := by decide +kernel
theorem dL_law_1136 : decode cL_law 1136 = .ok (.iadd, 1) := by decide +kernel
theorem dL_law_1137 : decode cL_law 1137 = .ok (.iaload, 1) := by decide +kernel
theorem dL_law_1138 : decode cL_law 1138 = .ok (.invokevirtual 150, 3) := by decide +kernel
theorem dL_law_1141 : decode cL_law 1141 = .ok (.if_icmp .eq 226, 3) := by decide +kernel
theorem dL_law_1144 : decode cL_law 1144 = .ok (.iconst 0, 1) := by decide +kernel
theorem dL_law_1145 : decode cL_law 1145 = .ok (.ireturn, 1) := by decide +kernel
theorem dL_law_1146 : decode cL_law 1146 = .ok (.aload_n 1, 1) := by decide +kernel
theorem dL_law_1147 : decode cL_law 1147 = .ok (.aload_n 0, 1) := by decide +kernel
theorem dL_law_1148 : decode cL_law 1148 = .ok (.iload_n 3, 1) := by decide +kernel
theorem dL_law_1149 : decode cL_law 1149 = .ok (.iconst 1, 1) := by decide +kernel
theorem dL_law_1150 : decode cL_law 1150 = .ok (.iadd, 1) := by decide +kernel
theorem dL_law_1151 : decode cL_law 1151 = .ok (.iaload, 1) := by decide +kernel
theorem dL_law_1152 : decode cL_law 1152 = .ok (.invokevirtual 151, 3) := by decide +kernel
theorem dL_law_1155 : decode cL_law 1155 = .ok (.aload_n 2, 1) := by decide +kernel
theorem dL_law_1156 : decode cL_law 1156 = .ok (.aload_n 0, 1) := by decide +kernel
theorem dL_law_1157 : decode cL_law 1157 = .ok (.iload_n 3, 1) := by decide +kernel
theorem dL_law_1158 : decode cL_law 1158 = .ok (.iconst 1, 1) := by decide +kernel
theorem dL_law_1159 : decode cL_law 1159 = .ok (.iadd, 1) := by decide +kernel
theorem dL_law_1160 : decode cL_law 1160 = .ok (.iaload, 1) := by decide +kernel
theorem dL_law_1161 : decode cL_law 1161 = .ok (.invokevirtual 154, 3) := by decide +kernel
theorem dL_law_1164 : decode cL_law 1164 = .ok (.if_icmp .eq 203, 3) := by decide +kernel
theorem dL_law_1167 : decode cL_law 1167 = .ok (.iconst 0, 1) := by decide +kernel
theorem dL_law_1168 : decode cL_law 1168 = .ok (.ireturn, 1) := by decide +kernel
theorem dL_law_1169 : decode cL_law 1169 = .ok (.aload_n 1, 1) := by decide +kernel
theorem dL_law_1170 : decode cL_law 1170 = .ok (.aload_n 0, 1) := by decide +kernel
theorem dL_law_1171 : decode cL_law 1171 = .ok (.iload_n 3, 1) := by decide +kernel
theorem dL_law_1172 : decode cL_law 1172 = .ok (.iconst 1, 1) := by decide +kernel
theorem dL_law_1173 : decode cL_law 1173 = .ok (.iadd, 1) := by decide +kernel
theorem dL_law_1174 : decode cL_law 1174 = .ok (.iaload, 1) := by decide +kernel
theorem dL_law_1175 : decode cL_law 1175 = .ok (.invokevirtual 155, 3) := by decide +kernel
theorem dL_law_1178 : decode cL_law 1178 = .ok (.aload_n 2, 1) := by decide +kernel
theorem dL_law_1179 : decode cL_law 1179 = .ok (.aload_n 0, 1) := by decide +kernel
theorem dL_law_1180 : decode cL_law 1180 = .ok (.iload_n 3, 1) := by decide +kernel
theorem dL_law_1181 : decode cL_law 1181 = .ok (.iconst 1, 1) := by decide +kernel
theorem dL_law_1182 : decode cL_law 1182 = .ok (.iadd, 1) := by decide +kernel
theorem dL_law_1183 : decode cL_law 1183 = .ok (.iaload, 1) := by decide +kernel
theorem dL_law_1184 : decode cL_law 1184 = .ok (.invokevirtual 158, 3) := by decide +kernel
theorem dL_law_1187 : decode cL_law 1187 = .ok (.if_icmp .eq 180, 3) := by decide +kernel
theorem dL_law_1190 : decode cL_law 1190 = .ok (.iconst 0, 1) := by decide +kernel
theorem dL_law_1191 : decode cL_law 1191 = .ok (.ireturn, 1) := by decide +kernel
theorem dL_law_1192 : decode cL_law 1192 = .ok (.aload_n 1, 1) := by decide +kernel
theorem dL_law_1193 : decode cL_law 1193 = .ok (.aload_n 0, 1) := by decide +kernel
theorem dL_law_1194 : decode cL_law 1194 = .ok (.iload_n 3, 1) := by decide +kernel
theorem dL_law_1195 : decode cL_law 1195 = .ok (.iconst 1, 1) := by decide +kernel
theorem dL_law_1196 : decode cL_law 1196 = .ok (.iadd, 1) := by decide +kernel
theorem dL_law_1197 : decode cL_law 1197 = .ok (.iaload, 1) := by decide +kernel
theorem dL_law_1198 : decode cL_law 1198 = .ok (.aload_n 0, 1) := by decide +kernel
theorem dL_law_1199 : decode cL_law 1199 = .ok (.iload_n 3, 1) := by decide +kernel
theorem dL_law_1200 : decode cL_law 1200 = .ok (.iconst 2, 1) := by decide +kernel
theorem dL_law_1201 : decode cL_law 1201 = .ok (.iadd, 1) := by decide +kernel
theorem dL_law_1202 : decode cL_law 1202 = .ok (.iaload, 1) := by decide +kernel
theorem dL_law_1203 : decode cL_law 1203 = .ok (.aload_n 0, 1) := by decide +kernel
theorem dL_law_1204 : decode cL_law 1204 = .ok (.iload_n 3, 1) := by decide +kernel
theorem dL_law_1205 : decode cL_law 1205 = .ok (.iconst 3, 1) := by decide +kernel
theorem dL_law_1206 : decode cL_law 1206 = .ok (.iadd, 1) := by decide +kernel
theorem dL_law_1207 : decode cL_law 1207 = .ok (.iaload, 1) := by decide +kernel
theorem dL_law_1208 : decode cL_law 1208 = .ok (.invokevirtual 159, 3) := by decide +kernel
theorem dL_law_1211 : decode cL_law 1211 = .ok (.aload_n 2, 1) := by decide +kernel
theorem dL_law_1212 : decode cL_law 1212 = .ok (.aload_n 0, 1) := by decide +kernel
theorem dL_law_1213 : decode cL_law 1213 = .ok (.iload_n 3, 1) := by decide +kernel
theorem dL_law_1214 : decode cL_law 1214 = .ok (.iconst 1, 1) := by decide +kernel
theorem dL_law_1215 : decode cL_law 1215 = .ok (.iadd, 1) := by decide +kernel
theorem dL_law_1216 : decode cL_law 1216 = .ok (.iaload, 1) := by decide +kernel
theorem dL_law_1217 : decode cL_law 1217 = .ok (.aload_n 0, 1) := by decide +kernel
theorem dL_law_1218 : decode cL_law 1218 = .ok (.iload_n 3, 1) := by decide +kernel
theorem dL_law_1219 : decode cL_law 1219 = .ok (.iconst 2, 1) := by decide +kernel
theorem dL_law_1220 : decode cL_law 1220 = .ok (.iadd, 1) := by decide +kernel
theorem dL_law_1221 : decode cL_law 1221 = .ok (.iaload, 1) := by decide +kernel
theorem dL_law_1222 : decode cL_law 1222 = .ok (.aload_n 0, 1) := by decide +kernel
theorem dL_law_1223 : decode cL_law 1223 = .ok (.iload_n 3, 1) := by decide +kernel
theorem dL_law_1224 : decode cL_law 1224 = .ok (.iconst 3, 1) := by decide +kernel
theorem dL_law_1225 : decode cL_law 1225 = .ok (.iadd, 1) := by decide +kernel
theorem dL_law_1226 : decode cL_law 1226 = .ok (.iaload, 1) := by decide +kernel
theorem dL_law_1227 : decode cL_law 1227 = .ok (.invokevirtual 162, 3) := by decide +kernel
theorem dL_law_1230 : decode cL_law 1230 = .ok (.if_icmp .eq 137, 3) := by decide +kernel
theorem dL_law_1233 : decode cL_law 1233 = .ok (.iconst 0, 1) := by decide +kernel
theorem dL_law_1234 : decode cL_law 1234 = .ok (.ireturn, 1) := by decide +kernel
theorem dL_law_1235 : decode cL_law 1235 = .ok (.aload_n 1, 1) := by decide +kernel
theorem dL_law_1236 : decode cL_law 1236 = .ok (.aload_n 0, 1) := by decide +kernel
theorem dL_law_1237 : decode cL_law 1237 = .ok (.iload_n 3, 1) := by decide +kernel
theorem dL_law_1238 : decode cL_law 1238 = .ok (.iconst 1, 1) := by decide +kernel
theorem dL_law_1239 : decode cL_law 1239 = .ok (.iadd, 1) := by decide +kernel
theorem dL_law_1240 : decode cL_law 1240 = .ok (.iaload, 1) := by decide +kernel
theorem dL_law_1241 : decode cL_law 1241 = .ok (.aload_n 0, 1) := by decide +kernel
theorem dL_law_1242 : decode cL_law 1242 = .ok (.iload_n 3, 1) := by decide +kernel
theorem dL_law_1243 : decode cL_law 1243 = .ok (.iconst 2, 1) := by decide +kernel
theorem dL_law_1244 : decode cL_law 1244 = .ok (.iadd, 1) := by decide +kernel
theorem dL_law_1245 : decode cL_law 1245 = .ok (.iaload, 1) := by decide +kernel
theorem dL_law_1246 : decode cL_law 1246 = .ok (.aload_n 0, 1) := by decide +kernel
theorem dL_law_1247 : decode cL_law 1247 = .ok (.iload_n 3, 1) := by decide +kernel
theorem dL_law_1248 : decode cL_law 1248 = .ok (.iconst 3, 1) := by decide +kernel
theorem dL_law_1249 : decode cL_law 1249 = .ok (.iadd, 1) := by decide +kernel
theorem dL_law_1250 : decode cL_law 1250 = .ok (.iaload, 1) := by decide +kernel
theorem dL_law_1251 : decode cL_law 1251 = .ok (.invokevirtual 163, 3) := by decide +kernel
theorem dL_law_1254 : decode cL_law 1254 = .ok (.aload_n 2, 1) := by decide +kernel
theorem dL_law_1255 : decode cL_law 1255 = .ok (.aload_n 0, 1) := by decide +kernel
theorem dL_law_1256 : decode cL_law 1256 = .ok (.iload_n 3, 1) := by decide +kernel
theorem dL_law_1257 : decode cL_law 1257 = .ok (.iconst 1, 1) := by decide +kernel
theorem dL_law_1258 : decode cL_law 1258 = .ok (.iadd, 1) := by decide +kernel
theorem dL_law_1259 : decode cL_law 1259 = .ok (.iaload, 1) := by decide +kernel
theorem dL_law_1260 : decode cL_law 1260 = .ok (.aload_n 0, 1) := by decide +kernel
theorem dL_law_1261 : decode cL_law 1261 = .ok (.iload_n 3, 1) := by decide +kernel
theorem dL_law_1262 : decode cL_law 1262 = .ok (.iconst 2, 1) := by decide +kernel
theorem dL_law_1263 : decode cL_law 1263 = .ok (.iadd, 1) := by decide +kernel
theorem dL_law_1264 : decode cL_law 1264 = .ok (.iaload, 1) := by decide +kernel
theorem dL_law_1265 : decode cL_law 1265 = .ok (.aload_n 0, 1) := by decide +kernel
theorem dL_law_1266 : decode cL_law 1266 = .ok (.iload_n 3, 1) := by decide +kernel
theorem dL_law_1267 : decode cL_law 1267 = .ok (.iconst 3, 1) := by decide +kernel
theorem dL_law_1268 : decode cL_law 1268 = .ok (.iadd, 1) := by decide +kernel
theorem dL_law_1269 : decode cL_law 1269 = .ok (.iaload, 1) := by decide +kernel
theorem dL_law_1270 : decode cL_law 1270 = .ok (.invokevirtual 166, 3) := by decide +kernel
theorem dL_law_1273 : decode cL_law 1273 = .ok (.if_icmp .eq 94, 3) := by decide +kernel
theorem dL_law_1276 : decode cL_law 1276 = .ok (.iconst 0, 1) := by decide +kernel
theorem dL_law_1277 : decode cL_law 1277 = .ok (.ireturn, 1) := by decide +kernel
theorem dL_law_1278 : decode cL_law 1278 = .ok (.aload_n 1, 1) := by decide +kernel
theorem dL_law_1279 : decode cL_law 1279 = .ok (.aload_n 0, 1) := by decide +kernel
theorem dL_law_1280 : decode cL_law 1280 = .ok (.iload_n 3, 1) := by decide +kernel
theorem dL_law_1281 : decode cL_law 1281 = .ok (.iconst 1, 1) := by decide +kernel
theorem dL_law_1282 : decode cL_law 1282 = .ok (.iadd, 1) := by decide +kernel
theorem dL_law_1283 : decode cL_law 1283 = .ok (.iaload, 1) := by decide +kernel
theorem dL_law_1284 : decode cL_law 1284 = .ok (.aload_n 0, 1) := by decide +kernel
theorem dL_law_1285 : decode cL_law 1285 = .ok (.iload_n 3, 1) := by decide +kernel
theorem dL_law_1286 : decode cL_law 1286 = .ok (.iconst 2, 1) := by decide +kernel
theorem dL_law_1287 : decode cL_law 1287 = .ok (.iadd, 1) := by decide +kernel
theorem dL_law_1288 : decode cL_law 1288 = .ok (.iaload, 1) := by decide +kernel
theorem dL_law_1289 : decode cL_law 1289 = .ok (.aload_n 0, 1) := by decide +kernel
theorem dL_law_1290 : decode cL_law 1290 = .ok (.iload_n 3, 1) := by decide +kernel
theorem dL_law_1291 : decode cL_law 1291 = .ok (.iconst 3, 1) := by decide +kernel
theorem dL_law_1292 : decode cL_law 1292 = .ok (.iadd, 1) := by decide +kernel
theorem dL_law_1293 : decode cL_law 1293 = .ok (.iaload, 1) := by decide +kernel
theorem dL_law_1294 : decode cL_law 1294 = .ok (.aload_n 0, 1) := by decide +kernel
theorem dL_law_1295 : decode cL_law 1295 = .ok (.iload_n 3, 1) := by decide +kernel
theorem dL_law_1296 : decode cL_law 1296 = .ok (.iconst 4, 1) := by decide +kernel
theorem dL_law_1297 : decode cL_law 1297 = .ok (.iadd, 1) := by decide +kernel
theorem dL_law_1298 : decode cL_law 1298 = .ok (.iaload, 1) := by decide +kernel
theorem dL_law_1299 : decode cL_law 1299 = .ok (.invokevirtual 167, 3) := by decide +kernel
theorem dL_law_1302 : decode cL_law 1302 = .ok (.aload_n 2, 1) := by decide +kernel
theorem dL_law_1303 : decode cL_law 1303 = .ok (.aload_n 0, 1) := by decide +kernel
theorem dL_law_1304 : decode cL_law 1304 = .ok (.iload_n 3, 1) := by decide +kernel
theorem dL_law_1305 : decode cL_law 1305 = .ok (.iconst 1, 1) := by decide +kernel
theorem dL_law_1306 : decode cL_law 1306 = .ok (.iadd, 1) := by decide +kernel
theorem dL_law_1307 : decode cL_law 1307 = .ok (.iaload, 1) := by decide +kernel
theorem dL_law_1308 : decode cL_law 1308 = .ok (.aload_n 0, 1) := by decide +kernel
theorem dL_law_1309 : decode cL_law 1309 = .ok (.iload_n 3, 1) := by decide +kernel
theorem dL_law_1310 : decode cL_law 1310 = .ok (.iconst 2, 1) := by decide +kernel
theorem dL_law_1311 : decode cL_law 1311 = .ok (.iadd, 1) := by decide +kernel
theorem dL_law_1312 : decode cL_law 1312 = .ok (.iaload, 1) := by decide +kernel
theorem dL_law_1313 : decode cL_law 1313 = .ok (.aload_n 0, 1) := by decide +kernel
theorem dL_law_1314 : decode cL_law 1314 = .ok (.iload_n 3, 1) := by decide +kernel
theorem dL_law_1315 : decode cL_law 1315 = .ok (.iconst 3, 1) := by decide +kernel
theorem dL_law_1316 : decode cL_law 1316 = .ok (.iadd, 1) := by decide +kernel
theorem dL_law_1317 : decode cL_law 1317 = .ok (.iaload, 1) := by decide +kernel
theorem dL_law_1318 : decode cL_law 1318 = .ok (.aload_n 0, 1) := by decide +kernel
theorem dL_law_1319 : decode cL_law 1319 = .ok (.iload_n 3, 1) := by decide +kernel
theorem dL_law_1320 : decode cL_law 1320 = .ok (.iconst 4, 1) := by decide +kernel
theorem dL_law_1321 : decode cL_law 1321 = .ok (.iadd, 1) := by decide +kernel
theorem dL_law_1322 : decode cL_law 1322 = .ok (.iaload, 1) := by decide +kernel
theorem dL_law_1323 : decode cL_law 1323 = .ok (.invokevirtual 171, 3) := by decide +kernel
theorem dL_law_1326 : decode cL_law 1326 = .ok (.if_icmp .eq 41, 3) := by decide +kernel
theorem dL_law_1329 : decode cL_law 1329 = .ok (.iconst 0, 1) := by decide +kernel
theorem dL_law_1330 : decode cL_law 1330 = .ok (.ireturn, 1) := by decide +kernel
theorem dL_law_1331 : decode cL_law 1331 = .ok (.aload_n 1, 1) := by decide +kernel
theorem dL_law_1332 : decode cL_law 1332 = .ok (.invokevirtual 172, 3) := by decide +kernel
theorem dL_law_1335 : decode cL_law 1335 = .ok (.aload_n 2, 1) := by decide +kernel
theorem dL_law_1336 : decode cL_law 1336 = .ok (.invokevirtual 175, 3) := by decide +kernel
theorem dL_law_1339 : decode cL_law 1339 = .ok (.if_icmp .eq 28, 3) := by decide +kernel
theorem dL_law_1342 : decode cL_law 1342 = .ok (.iconst 0, 1) := by decide +kernel
theorem dL_law_1343 : decode cL_law 1343 = .ok (.ireturn, 1) := by decide +kernel
theorem dL_law_1344 : decode cL_law 1344 = .ok (.aload_n 1, 1) := by decide +kernel
theorem dL_law_1345 : decode cL_law 1345 = .ok (.aload_n 0, 1) := by decide +kernel
theorem dL_law_1346 : decode cL_law 1346 = .ok (.iload_n 3, 1) := by decide +kernel
theorem dL_law_1347 : decode cL_law 1347 = .ok (.iconst 1, 1) := by decide +kernel
theorem dL_law_1348 : decode cL_law 1348 = .ok (.iadd, 1) := by decide +kernel
theorem dL_law_1349 : decode cL_law 1349 = .ok (.iaload, 1) := by decide +kernel
theorem dL_law_1350 : decode cL_law 1350 = .ok (.invokevirtual 176, 3) := by decide +kernel
theorem dL_law_1353 : decode cL_law 1353 = .ok (.aload_n 2, 1) := by decide +kernel
theorem dL_law_1354 : decode cL_law 1354 = .ok (.aload_n 0, 1) := by decide +kernel
theorem dL_law_1355 : decode cL_law 1355 = .ok (.iload_n 3, 1) := by decide +kernel
theorem dL_law_1356 : decode cL_law 1356 = .ok (.iconst 1, 1) := by decide +kernel
theorem dL_law_1357 : decode cL_law 1357 = .ok (.iadd, 1) := by decide +kernel
theorem dL_law_1358 : decode cL_law 1358 = .ok (.iaload, 1) := by decide +kernel
theorem dL_law_1359 : decode cL_law 1359 = .ok (.invokevirtual 179, 3) := by decide +kernel
theorem dL_law_1362 : decode cL_law 1362 = .ok (.if_icmp .eq 5, 3) := by decide +kernel
theorem dL_law_1365 : decode cL_law 1365 = .ok (.iconst 0, 1) := by decide +kernel
theorem dL_law_1366 : decode cL_law 1366 = .ok (.ireturn, 1) := by decide +kernel
theorem dL_law_1367 : decode cL_law 1367 = .ok (.iinc 3 5, 3) := by decide +kernel
theorem dL_law_1370 : decode cL_law 1370 = .ok (.goto (-1352), 3) := by decide +kernel
theorem dL_law_1373 : decode cL_law 1373 = .ok (.iconst 1, 1) := by decide +kernel
theorem dL_law_1374 : decode cL_law 1374 = .ok (.ireturn, 1) := by decide +kernel
