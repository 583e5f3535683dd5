theorem dX6_init_36 : decode cX6_init 36 = .ok (.newarray .boolean, 2) := by decide +kernel
theorem dX6_init_38 : decode cX6_init 38 = .ok (.putfield 23, 3) := by decide +kernel
theorem dX6_init_41 : decode cX6_init 41 = .ok (.aload_n 0, 1) := by decide +kernel
theorem dX6_init_42 : decode cX6_init 42 = .ok (.new 27, 3) := by decide +kernel
theorem dX6_init_45 : decode cX6_init 45 = .ok (.dup, 1) := by decide +kernel
theorem dX6_init_46 : decode cX6_init 46 = .ok (.invokespecial 29, 3) := by decide +kernel
theorem dX6_init_49 : decode cX6_init 49 = .ok (.putfield 30, 3) := by decide +kernel
theorem dX6_init_52 : decode cX6_init 52 = .ok (.aload_n 0, 1) := by decide +kernel
theorem dX6_init_53 : decode cX6_init 53 = .ok (.new 34, 3) := by decide +kernel
theorem dX6_init_56 : decode cX6_init 56 = .ok (.dup, 1) := by decide +kernel
theorem dX6_init_57 : decode cX6_init 57 = .ok (.invokespecial 36, 3) := by decide +kernel
theorem dX6_init_60 : decode cX6_init 60 = .ok (.putfield 37, 3) := by decide +kernel
theorem dX6_init_63 : decode cX6_init 63 = .ok (.aload_n 0, 1) := by decide +kernel
theorem dX6_init_64 : decode cX6_init 64 = .ok (.iconst 4, 1) := by decide +kernel
theorem dX6_init_65 : decode cX6_init 65 = .ok (.anewarray 41, 3) := by decide +kernel
theorem dX6_init_68 : decode cX6_init 68 = .ok (.putfield 43, 3) := by decide +kernel
theorem dX6_init_71 : decode cX6_init 71 = .ok (.aload_n 0, 1) := by decide +kernel
theorem dX6_init_72 : decode cX6_init 72 = .ok (.new 47, 3) := by decide +kernel
theorem dX6_init_75 : decode cX6_init 75 = .ok (.dup, 1) := by decide +kernel
theorem dX6_init_76 : decode cX6_init 76 = .ok (.invokespecial 49, 3) := by decide +kernel
theorem dX6_init_79 : decode cX6_init 79 = .ok (.putfield 50, 3) := by decide +kernel
theorem dX6_init_82 : decode cX6_init 82 = .ok (.aload_n 0, 1) := by decide +kernel
theorem dX6_init_83 : decode cX6_init 83 = .ok (.bipush 6, 2) := by decide +kernel
theorem dX6_init_85 : decode cX6_init 85 = .ok (.newarray .int, 2) := by decide +kernel
theorem dX6_init_87 : decode cX6_init 87 = .ok (.putfield 54, 3) := by decide +kernel
theorem dX6_init_90 : decode cX6_init 90 = .ok (.aload_n 0, 1) := by decide +kernel
theorem dX6_init_91 : decode cX6_init 91 = .ok (.bipush 6, 2) := by decide +kernel
theorem dX6_init_93 : decode cX6_init 93 = .ok (.newarray .int, 2) := by decide +kernel
theorem dX6_init_95 : decode cX6_init 95 = .ok (.putfield 58, 3) := by decide +kernel
theorem dX6_init_98 : decode cX6_init 98 = .ok (.aload_n 0, 1) := by decide +kernel
theorem dX6_init_99 : decode cX6_init 99 = .ok (.sipush 164, 3) := by decide +kernel
theorem dX6_init_102 : decode cX6_init 102 = .ok (.newarray .int, 2) := by decide +kernel
theorem dX6_init_104 : decode cX6_init 104 = .ok (.putfield 61, 3) := by decide +kernel
theorem dX6_init_107 : decode cX6_init 107 = .ok (.aload_n 0, 1) := by decide +kernel
theorem dX6_init_108 : decode cX6_init 108 = .ok (.iconst 0, 1) := by decide +kernel
theorem dX6_init_109 : decode cX6_init 109 = .ok (.putfield 64, 3) := by decide +kernel
theorem dX6_init_112 : decode cX6_init 112 = .ok (.iconst 0, 1) := by decide +kernel
theorem dX6_init_113 : decode cX6_init 113 = .ok (.istore_n 1, 1) := by decide +kernel
theorem dX6_init_114 : decode cX6_init 114 = .ok (.iload_n 1, 1) := by decide +kernel
theorem dX6_init_115 : decode cX6_init 115 = .ok (.iconst 2, 1) := by decide +kernel
theorem dX6_init_116 : decode cX6_init 116 = .ok (.if_icmp .ge 22, 3) := by decide +kernel
theorem dX6_init_119 : decode cX6_init 119 = .ok (.aload_n 0, 1) := by decide +kernel
theorem dX6_init_120 : decode cX6_init 120 = .ok (.getfield 19, 3) := by decide +kernel
theorem dX6_init_123 : decode cX6_init 123 = .ok (.iload_n 1, 1) := by decide +kernel
theorem dX6_init_124 : decode cX6_init 124 = .ok (.new 7, 3) := by decide +kernel
theorem dX6_init_127 : decode cX6_init 127 = .ok (.dup, 1) := by decide +kernel
theorem dX6_init_128 : decode cX6_init 128 = .ok (.invokespecial 9, 3) := by decide +kernel
theorem dX6_init_131 : decode cX6_init 131 = .ok (.aastore, 1) := by decide +kernel
theorem dX6_init_132 : decode cX6_init 132 = .ok (.iinc 1 1, 3) := by decide +kernel
theorem dX6_init_135 : decode cX6_init 135 = .ok (.goto (-21), 3) := by decide +kernel
theorem dX6_init_138 : decode cX6_init 138 = .ok (.iconst 0, 1) := by decide +kernel
theorem dX6_init_139 : decode cX6_init 139 = .ok (.istore_n 1, 1) := by decide +kernel
theorem dX6_init_140 : decode cX6_init 140 = .ok (.iload_n 1, 1) := by decide +kernel
theorem dX6_init_141 : decode cX6_init 141 = .ok (.iconst 4, 1) := by decide +kernel
theorem dX6_init_142 : decode cX6_init 142 = .ok (.if_icmp .ge 22, 3) := by decide +kernel
theorem dX6_init_145 : decode cX6_init 145 = .ok (.aload_n 0, 1) := by decide +kernel
theorem dX6_init_146 : decode cX6_init 146 = .ok (.getfield 43, 3) := by decide +kernel
theorem dX6_init_149 : decode cX6_init 149 = .ok (.iload_n 1, 1) := by decide +kernel
theorem dX6_init_150 : decode cX6_init 150 = .ok (.new 41, 3) := by decide +kernel
theorem dX6_init_153 : decode cX6_init 153 = .ok (.dup, 1) := by decide +kernel
theorem dX6_init_154 : decode cX6_init 154 = .ok (.invokespecial 68, 3) := by decide +kernel
theorem dX6_init_157 : decode cX6_init 157 = .ok (.aastore, 1) := by decide +kernel
theorem dX6_init_158 : decode cX6_init 158 = .ok (.iinc 1 1, 3) := by decide +kernel
theorem dX6_init_161 : decode cX6_init 161 = .ok (.goto (-21), 3) := by decide +kernel
theorem dX6_init_164 : decode cX6_init 164 = .ok (.return_, 1) := by decide +kernel
theorem dX6_feed_0 : decode cX6_feed 0 = .ok (.iload_n 1, 1) := by decide +kernel
theorem dX6_feed_1 : decode cX6_feed 1 = .ok (.iconst 0, 1) := by decide +kernel
theorem dX6_feed_2 : decode cX6_feed 2 = .ok (.bipush 127, 2) := by decide +kernel
theorem dX6_feed_4 : decode cX6_feed 4 = .ok (.invokestatic 69, 3) := by decide +kernel
theorem dX6_feed_7 : decode cX6_feed 7 = .ok (.ifCond .ne 5, 3) := by decide +kernel
theorem dX6_feed_10 : decode cX6_feed 10 = .ok (.iconst (-1), 1) := by decide +kernel
theorem dX6_feed_11 : decode cX6_feed 11 = .ok (.ireturn, 1) := by decide +kernel
theorem dX6_feed_12 : decode cX6_feed 12 = .ok (.aload_n 0, 1) := by decide +kernel
theorem dX6_feed_13 : decode cX6_feed 13 = .ok (.getfield 30, 3) := by decide +kernel
theorem dX6_feed_16 : decode cX6_feed 16 = .ok (.getfield 73, 3) := by decide +kernel
theorem dX6_feed_19 : decode cX6_feed 19 = .ok (.sipush 160, 3) := by decide +kernel
theorem dX6_feed_22 : decode cX6_feed 22 = .ok (.if_icmp .lt 6, 3) := by decide +kernel
theorem dX6_feed_25 : decode cX6_feed 25 = .ok (.bipush (-3), 2) := by decide +kernel
theorem dX6_feed_27 : decode cX6_feed 27 = .ok (.ireturn, 1) := by decide +kernel
theorem dX6_feed_28 : decode cX6_feed 28 = .ok (.aload_n 0, 1) := by decide +kernel
theorem dX6_feed_29 : decode cX6_feed 29 = .ok (.getfield 30, 3) := by decide +kernel
theorem dX6_feed_32 : decode cX6_feed 32 = .ok (.getfield 76, 3) := by decide +kernel
theorem dX6_feed_35 : decode cX6_feed 35 = .ok (.aload_n 0, 1) := by decide +kernel
theorem dX6_feed_36 : decode cX6_feed 36 = .ok (.getfield 30, 3) := by decide +kernel
theorem dX6_feed_39 : decode cX6_feed 39 = .ok (.getfield 73, 3) := by decide +kernel
theorem dX6_feed_42 : decode cX6_feed 42 = .ok (.iload_n 1, 1) := by decide +kernel
theorem dX6_feed_43 : decode cX6_feed 43 = .ok (.i2b, 1) := by decide +kernel
theorem dX6_feed_44 : decode cX6_feed 44 = .ok (.bastore, 1) := by decide +kernel
theorem dX6_feed_45 : decode cX6_feed 45 = .ok (.aload_n 0, 1) := by decide +kernel
theorem dX6_feed_46 : decode cX6_feed 46 = .ok (.getfield 30, 3) := by decide +kernel
theorem dX6_feed_49 : decode cX6_feed 49 = .ok (.dup, 1) := by decide +kernel
theorem dX6_feed_50 : decode cX6_feed 50 = .ok (.getfield 73, 3) := by decide +kernel
theorem dX6_feed_53 : decode cX6_feed 53 = .ok (.iconst 1, 1) := by decide +kernel
theorem dX6_feed_54 : decode cX6_feed 54 = .ok (.iadd, 1) := by decide +kernel
theorem dX6_feed_55 : decode cX6_feed 55 = .ok (.putfield 73, 3) := by decide +kernel
theorem dX6_feed_58 : decode cX6_feed 58 = .ok (.aload_n 0, 1) := by decide +kernel
theorem dX6_feed_59 : decode cX6_feed 59 = .ok (.getfield 30, 3) := by decide +kernel
theorem dX6_feed_62 : decode cX6_feed 62 = .ok (.getfield 73, 3) := by decide +kernel
theorem dX6_feed_65 : decode cX6_feed 65 = .ok (.ireturn, 1) := by decide +kernel
theorem dX6_end_0 : decode cX6_end 0 = .ok (.iload_n 1, 1) := by decide +kernel
theorem dX6_end_1 : decode cX6_end 1 = .ok (.iconst 0, 1) := by decide +kernel
theorem dX6_end_2 : decode cX6_end 2 = .ok (.aload_n 0, 1) := by decide +kernel
theorem dX6_end_3 : decode cX6_end 3 = .ok (.getfield 30, 3) := by decide +kernel
theorem dX6_end_6 : decode cX6_end 6 = .ok (.getfield 73, 3) := by decide +kernel
theorem dX6_end_9 : decode cX6_end 9 = .ok (.invokestatic 69, 3) := by decide +kernel
theorem dX6_end_12 : decode cX6_end 12 = .ok (.ifCond .ne 5, 3) := by decide +kernel
theorem dX6_end_15 : decode cX6_end 15 = .ok (.iconst (-1), 1) := by decide +kernel
theorem dX6_end_16 : decode cX6_end 16 = .ok (.ireturn, 1) := by decide +kernel
theorem dX6_end_17 : decode cX6_end 17 = .ok (.aload_n 0, 1) := by decide +kernel
theorem dX6_end_18 : decode cX6_end 18 = .ok (.getfield 30, 3) := by decide +kernel
theorem dX6_end_21 : decode cX6_end 21 = .ok (.getfield 73, 3) := by decide +kernel
theorem dX6_end_24 : decode cX6_end 24 = .ok (.istore_n 2, 1) := by decide +kernel
theorem dX6_end_25 : decode cX6_end 25 = .ok (.aload_n 0, 1) := by decide +kernel
theorem dX6_end_26 : decode cX6_end 26 = .ok (.getfield 30, 3) := by decide +kernel
theorem dX6_end_29 : decode cX6_end 29 = .ok (.iload_n 1, 1) := by decide +kernel
theorem dX6_end_30 : decode cX6_end 30 = .ok (.putfield 73, 3) := by decide +kernel
theorem dX6_end_33 : decode cX6_end 33 = .ok (.iload_n 2, 1) := by decide +kernel
theorem dX6_end_34 : decode cX6_end 34 = .ok (.ireturn, 1) := by decide +kernel
theorem dX6_text_0 : decode cX6_text 0 = .ok (.aload_n 0, 1) := by decide +kernel
theorem dX6_text_1 : decode cX6_text 1 = .ok (.getfield 30, 3) := by decide +kernel
theorem dX6_text_4 : decode cX6_text 4 = .ok (.aload_n 0, 1) := by decide +kernel
theorem dX6_text_5 : decode cX6_text 5 = .ok (.getfield 16, 3) := by decide +kernel
theorem dX6_text_8 : decode cX6_text 8 = .ok (.invokevirtual 80, 3) := by decide +kernel
theorem dX6_text_11 : decode cX6_text 11 = .ok (.istore_n 1, 1) := by decide +kernel
theorem dX6_text_12 : decode cX6_text 12 = .ok (.aload_n 0, 1) := by decide +kernel
theorem dX6_text_13 : decode cX6_text 13 = .ok (.getfield 30, 3) := by decide +kernel
theorem dX6_text_16 : decode cX6_text 16 = .ok (.iconst 0, 1) := by decide +kernel
theorem dX6_text_17 : decode cX6_text 17 = .ok (.putfield 73, 3) := by decide +kernel
theorem dX6_text_20 : decode cX6_text 20 = .ok (.aload_n 0, 1) := by decide +kernel
theorem dX6_text_21 : decode cX6_text 21 = .ok (.getfield 30, 3) := by decide +kernel
theorem dX6_text_24 : decode cX6_text 24 = .ok (.getfield 84, 3) := by decide +kernel
theorem dX6_text_27 : decode cX6_text 27 = .ok (.ifCond .eq 14, 3) := by decide +kernel
theorem dX6_text_30 : decode cX6_text 30 = .ok (.bipush (-10), 2) := by decide +kernel
theorem dX6_text_32 : decode cX6_text 32 = .ok (.aload_n 0, 1) := by decide +kernel
theorem dX6_text_33 : decode cX6_text 33 = .ok (.getfield 30, 3) := by decide +kernel
theorem dX6_text_36 : decode cX6_text 36 = .ok (.getfield 87, 3) := by decide +kernel
theorem dX6_text_39 : decode cX6_text 39 = .ok (.isub, 1) := by decide +kernel
theorem dX6_text_40 : decode cX6_text 40 = .ok (.ireturn, 1) := by decide +kernel
theorem dX6_text_41 : decode cX6_text 41 = .ok (.aload_n 0, 1) := by decide +kernel
theorem dX6_text_42 : decode cX6_text 42 = .ok (.getfield 10, 3) := by decide +kernel
theorem dX6_text_45 : decode cX6_text 45 = .ok (.aload_n 0, 1) := by decide +kernel
theorem dX6_text_46 : decode cX6_text 46 = .ok (.getfield 16, 3) := by decide +kernel
theorem dX6_text_49 : decode cX6_text 49 = .ok (.invokevirtual 90, 3) := by decide +kernel
theorem dX6_text_52 : decode cX6_text 52 = .ok (.aload_n 0, 1) := by decide +kernel
theorem dX6_text_53 : decode cX6_text 53 = .ok (.getfield 37, 3) := by decide +kernel
theorem dX6_text_56 : decode cX6_text 56 = .ok (.iconst 0, 1) := by decide +kernel
theorem dX6_text_57 : decode cX6_text 57 = .ok (.putfield 94, 3) := by decide +kernel
theorem dX6_text_60 : decode cX6_text 60 = .ok (.iconst 0, 1) := by decide +kernel
theorem dX6_text_61 : decode cX6_text 61 = .ok (.istore_n 2, 1) := by decide +kernel
theorem dX6_text_62 : decode cX6_text 62 = .ok (.iload_n 2, 1) := by decide +kernel
theorem dX6_text_63 : decode cX6_text 63 = .ok (.iconst 2, 1) := by decide +kernel
theorem dX6_text_64 : decode cX6_text 64 = .ok (.if_icmp .ge 16, 3) := by decide +kernel
theorem dX6_text_67 : decode cX6_text 67 = .ok (.aload_n 0, 1) := by decide +kernel
theorem dX6_text_68 : decode cX6_text 68 = .ok (.getfield 23, 3) := by decide +kernel
theorem dX6_text_71 : decode cX6_text 71 = .ok (.iload_n 2, 1) := by decide +kernel
theorem dX6_text_72 : decode cX6_text 72 = .ok (.iconst 0, 1) := by decide +kernel
theorem dX6_text_73 : decode cX6_text 73 = .ok (.bastore, 1) := by decide +kernel
theorem dX6_text_74 : decode cX6_text 74 = .ok (.iinc 2 1, 3) := by decide +kernel
theorem dX6_text_77 : decode cX6_text 77 = .ok (.goto (-15), 3) := by decide +kernel
theorem dX6_text_80 : decode cX6_text 80 = .ok (.iload_n 1, 1) := by decide +kernel
theorem dX6_text_81 : decode cX6_text 81 = .ok (.ireturn, 1) := by decide +kernel
theorem dX6_fault_0 : decode cX6_fault 0 = .ok (.aload_n 0, 1) := by decide +kernel
theorem dX6_fault_1 : decode cX6_fault 1 = .ok (.getfield 30, 3) := by decide +kernel
theorem dX6_fault_4 : decode cX6_fault 4 = .ok (.getfield 84, 3) := by decide +kernel
theorem dX6_fault_7 : decode cX6_fault 7 = .ok (.ireturn, 1) := by decide +kernel
theorem dX6_rule_0 : decode cX6_rule 0 = .ok (.iload_n 1, 1) := by decide +kernel
theorem dX6_rule_1 : decode cX6_rule 1 = .ok (.tableswitch 85 0 5 #[39, 47, 55, 63, 71, 80], 39) := by decide +kernel
theorem dX6_rule_40 : decode cX6_rule 40 = .ok (.aload_n 0, 1) := by decide +kernel
theorem dX6_rule_41 : decode cX6_rule 41 = .ok (.getfield 10, 3) := by decide +kernel
theorem dX6_rule_44 : decode cX6_rule 44 = .ok (.getfield 97, 3) := by decide +kernel
theorem dX6_rule_47 : decode cX6_rule 47 = .ok (.ireturn, 1) := by decide +kernel
theorem dX6_rule_48 : decode cX6_rule 48 = .ok (.aload_n 0, 1) := by decide +kernel
theorem dX6_rule_49 : decode cX6_rule 49 = .ok (.getfield 10, 3) := by decide +kernel
theorem dX6_rule_52 : decode cX6_rule 52 = .ok (.getfield 100, 3) := by decide +kernel
theorem dX6_rule_55 : decode cX6_rule 55 = .ok (.ireturn, 1) := by decide +kernel
theorem dX6_rule_56 : decode cX6_rule 56 = .ok (.aload_n 0, 1) := by decide +kernel
theorem dX6_rule_57 : decode cX6_rule 57 = .ok (.getfield 10, 3) := by decide +kernel
theorem dX6_rule_60 : decode cX6_rule 60 = .ok (.getfield 103, 3) := by decide +kernel
theorem dX6_rule_63 : decode cX6_rule 63 = .ok (.ireturn, 1) := by decide +kernel
theorem dX6_rule_64 : decode cX6_rule 64 = .ok (.aload_n 0, 1) := by decide +kernel
theorem dX6_rule_65 : decode cX6_rule 65 = .ok (.getfield 10, 3) := by decide +kernel
theorem dX6_rule_68 : decode cX6_rule 68 = .ok (.getfield 106, 3) := by decide +kernel
theorem dX6_rule_71 : decode cX6_rule 71 = .ok (.ireturn, 1) := by decide +kernel
theorem dX6_rule_72 : decode cX6_rule 72 = .ok (.aload_n 0, 1) := by decide +kernel
theorem dX6_rule_73 : decode cX6_rule 73 = .ok (.getfield 10, 3) := by decide +kernel
theorem dX6_rule_76 : decode cX6_rule 76 = .ok (.iconst 0, 1) := by decide +kernel
theorem dX6_rule_77 : decode cX6_rule 77 = .ok (.invokevirtual 109, 3) := by decide +kernel
theorem dX6_rule_80 : decode cX6_rule 80 = .ok (.ireturn, 1) := by decide +kernel
theorem dX6_rule_81 : decode cX6_rule 81 = .ok (.aload_n 0, 1) := by decide +kernel
theorem dX6_rule_82 : decode cX6_rule 82 = .ok (.invokevirtual 113, 3) := by decide +kernel
theorem dX6_rule_85 : decode cX6_rule 85 = .ok (.ireturn, 1) := by decide +kernel
theorem dX6_rule_86 : decode cX6_rule 86 = .ok (.iconst (-1), 1) := by decide +kernel
theorem dX6_rule_87 : decode cX6_rule 87 = .ok (.ireturn, 1) := by decide +kernel
theorem dX6_leastCost_0 : decode cX6_leastCost 0 = .ok (.aload_n 0, 1) := by decide +kernel
theorem dX6_leastCost_1 : decode cX6_leastCost 1 = .ok (.getfield 50, 3) := by decide +kernel
theorem dX6_leastCost_4 : decode cX6_leastCost 4 = .ok (.ldc 117, 2) := by decide +kernel
theorem dX6_leastCost_6 : decode cX6_leastCost 6 = .ok (.invokevirtual 118, 3) := by decide +kernel
theorem dX6_leastCost_9 : decode cX6_leastCost 9 = .ok (.iconst 0, 1) := by decide +kernel
theorem dX6_leastCost_10 : decode cX6_leastCost 10 = .ok (.istore_n 1, 1) := by decide +kernel
theorem dX6_leastCost_11 : decode cX6_leastCost 11 = .ok (.iload_n 1, 1) := by decide +kernel
theorem dX6_leastCost_12 : decode cX6_leastCost 12 = .ok (.aload_n 0, 1) := by decide +kernel
theorem dX6_leastCost_13 : decode cX6_leastCost 13 = .ok (.getfield 10, 3) := by decide +kernel
theorem dX6_leastCost_16 : decode cX6_leastCost 16 = .ok (.getfield 100, 3) := by decide +kernel
theorem dX6_leastCost_19 : decode cX6_leastCost 19 = .ok (.if_icmp .ge 29, 3) := by decide +kernel
theorem dX6_leastCost_22 : decode cX6_leastCost 22 = .ok (.aload_n 0, 1) := by decide +kernel
theorem dX6_leastCost_23 : decode cX6_leastCost 23 = .ok (.getfield 50, 3) := by decide +kernel
theorem dX6_leastCost_26 : decode cX6_leastCost 26 = .ok (.iload_n 1, 1) := by decide +kernel
theorem dX6_leastCost_27 : decode cX6_leastCost 27 = .ok (.aload_n 0, 1) := by decide +kernel
theorem dX6_leastCost_28 : decode cX6_leastCost 28 = .ok (.getfield 10, 3) := by decide +kernel
theorem dX6_leastCost_31 : decode cX6_leastCost 31 = .ok (.getfield 122, 3) := by decide +kernel
theorem dX6_leastCost_34 : decode cX6_leastCost 34 = .ok (.iload_n 1, 1) := by decide +kernel
theorem dX6_leastCost_35 : decode cX6_leastCost 35 = .ok (.aaload, 1) := by decide +kernel
theorem dX6_leastCost_36 : decode cX6_leastCost 36 = .ok (.getfield 126, 3) := by decide +kernel
theorem dX6_leastCost_39 : decode cX6_leastCost 39 = .ok (.invokevirtual 131, 3) := by decide +kernel
theorem dX6_leastCost_42 : decode cX6_leastCost 42 = .ok (.iinc 1 1, 3) := by decide +kernel
theorem dX6_leastCost_45 : decode cX6_leastCost 45 = .ok (.goto (-34), 3) := by decide +kernel
theorem dX6_leastCost_48 : decode cX6_leastCost 48 = .ok (.aload_n 0, 1) := by decide +kernel
theorem dX6_leastCost_49 : decode cX6_leastCost 49 = .ok (.getfield 50, 3) := by decide +kernel
theorem dX6_leastCost_52 : decode cX6_leastCost 52 = .ok (.getfield 135, 3) := by decide +kernel
theorem dX6_leastCost_55 : decode cX6_leastCost 55 = .ok (.ireturn, 1) := by decide +kernel
theorem dX6_shelf_0 : decode cX6_shelf 0 = .ok (.aload_n 0, 1) := by decide +kernel
theorem dX6_shelf_1 : decode cX6_shelf 1 = .ok (.getfield 10, 3) := by decide +kernel
theorem dX6_shelf_4 : decode cX6_shelf 4 = .ok (.iload_n 1, 1) := by decide +kernel
theorem dX6_shelf_5 : decode cX6_shelf 5 = .ok (.invokevirtual 138, 3) := by decide +kernel
theorem dX6_shelf_8 : decode cX6_shelf 8 = .ok (.ifCond .ne 5, 3) := by decide +kernel
theorem dX6_shelf_11 : decode cX6_shelf 11 = .ok (.iconst (-1), 1) := by decide +kernel
theorem dX6_shelf_12 : decode cX6_shelf 12 = .ok (.ireturn, 1) := by decide +kernel
theorem dX6_shelf_13 : decode cX6_shelf 13 = .ok (.aload_n 0, 1) := by decide +kernel
theorem dX6_shelf_14 : decode cX6_shelf 14 = .ok (.getfield 10, 3) := by decide +kernel
theorem dX6_shelf_17 : decode cX6_shelf 17 = .ok (.getfield 122, 3) := by decide +kernel
theorem dX6_shelf_20 : decode cX6_shelf 20 = .ok (.iload_n 1, 1) := by decide +kernel
theorem dX6_shelf_21 : decode cX6_shelf 21 = .ok (.aaload, 1) := by decide +kernel
theorem dX6_shelf_22 : decode cX6_shelf 22 = .ok (.astore_n 3, 1) := by decide +kernel
theorem dX6_shelf_23 : decode cX6_shelf 23 = .ok (.iload_n 2, 1) := by decide +kernel
theorem dX6_shelf_24 : decode cX6_shelf 24 = .ok (.ifCond .ne 8, 3) := by decide +kernel
theorem dX6_shelf_27 : decode cX6_shelf 27 = .ok (.aload_n 3, 1) := by decide +kernel
theorem dX6_shelf_28 : decode cX6_shelf 28 = .ok (.getfield 142, 3) := by decide +kernel
theorem dX6_shelf_31 : decode cX6_shelf 31 = .ok (.ireturn, 1) := by decide +kernel
theorem dX6_shelf_32 : decode cX6_shelf 32 = .ok (.iload_n 2, 1) := by decide +kernel
theorem dX6_shelf_33 : decode cX6_shelf 33 = .ok (.iconst 1, 1) := by decide +kernel
theorem dX6_shelf_34 : decode cX6_shelf 34 = .ok (.if_icmp .ne 8, 3) := by decide +kernel
theorem dX6_shelf_37 : decode cX6_shelf 37 = .ok (.aload_n 3, 1) := by decide +kernel
theorem dX6_shelf_38 : decode cX6_shelf 38 = .ok (.getfield 126, 3) := by decide +kernel
theorem dX6_shelf_41 : decode cX6_shelf 41 = .ok (.ireturn, 1) := by decide +kernel
theorem dX6_shelf_42 : decode cX6_shelf 42 = .ok (.iload_n 2, 1) := by decide +kernel
theorem dX6_shelf_43 : decode cX6_shelf 43 = .ok (.bipush 10, 2) := by decide +kernel
theorem dX6_shelf_45 : decode cX6_shelf 45 = .ok (.bipush 10, 2) := by decide +kernel
theorem dX6_shelf_47 : decode cX6_shelf 47 = .ok (.aload_n 0, 1) := by decide +kernel
theorem dX6_shelf_48 : decode cX6_shelf 48 = .ok (.getfield 10, 3) := by decide +kernel
theorem dX6_shelf_51 : decode cX6_shelf 51 = .ok (.getfield 97, 3) := by decide +kernel
theorem dX6_shelf_54 : decode cX6_shelf 54 = .ok (.iadd, 1) := by decide +kernel
theorem dX6_shelf_55 : decode cX6_shelf 55 = .ok (.iconst 1, 1) := by decide +kernel
theorem dX6_shelf_56 : decode cX6_shelf 56 = .ok (.isub, 1) := by decide +kernel
theorem dX6_shelf_57 : decode cX6_shelf 57 = .ok (.invokestatic 69, 3) := by decide +kernel
theorem dX6_shelf_60 : decode cX6_shelf 60 = .ok (.ifCond .eq 13, 3) := by decide +kernel
theorem dX6_shelf_63 : decode cX6_shelf 63 = .ok (.aload_n 3, 1) := by decide +kernel
theorem dX6_shelf_64 : decode cX6_shelf 64 = .ok (.getfield 145, 3) := by decide +kernel
theorem dX6_shelf_67 : decode cX6_shelf 67 = .ok (.iload_n 2, 1) := by decide +kernel
theorem dX6_shelf_68 : decode cX6_shelf 68 = .ok (.bipush 10, 2) := by decide +kernel
theorem dX6_shelf_70 : decode cX6_shelf 70 = .ok (.isub, 1) := by decide +kernel
theorem dX6_shelf_71 : decode cX6_shelf 71 = .ok (.iaload, 1) := by decide +kernel
theorem dX6_shelf_72 : decode cX6_shelf 72 = .ok (.ireturn, 1) := by decide +kernel
theorem dX6_shelf_73 : decode cX6_shelf 73 = .ok (.iload_n 2, 1) := by decide +kernel
theorem dX6_shelf_74 : decode cX6_shelf 74 = .ok (.bipush 20, 2) := by decide +kernel
theorem dX6_shelf_76 : decode cX6_shelf 76 = .ok (.bipush 20, 2) := by decide +kernel
theorem dX6_shelf_78 : decode cX6_shelf 78 = .ok (.aload_n 0, 1) := by decide +kernel
theorem dX6_shelf_79 : decode cX6_shelf 79 = .ok (.getfield 10, 3) := by decide +kernel
theorem dX6_shelf_82 : decode cX6_shelf 82 = .ok (.getfield 97, 3) := by decide +kernel
theorem dX6_shelf_85 : decode cX6_shelf 85 = .ok (.iadd, 1) := by decide +kernel
theorem dX6_shelf_86 : decode cX6_shelf 86 = .ok (.iconst 1, 1) := by decide +kernel
theorem dX6_shelf_87 : decode cX6_shelf 87 = .ok (.isub, 1) := by decide +kernel
theorem dX6_shelf_88 : decode cX6_shelf 88 = .ok (.invokestatic 69, 3) := by decide +kernel
theorem dX6_shelf_91 : decode cX6_shelf 91 = .ok (.ifCond .eq 13, 3) := by decide +kernel
theorem dX6_shelf_94 : decode cX6_shelf 94 = .ok (.aload_n 3, 1) := by decide +kernel
theorem dX6_shelf_95 : decode cX6_shelf 95 = .ok (.getfield 148, 3) := by decide +kernel
theorem dX6_shelf_98 : decode cX6_shelf 98 = .ok (.iload_n 2, 1) := by decide +kernel
theorem dX6_shelf_99 : decode cX6_shelf 99 = .ok (.bipush 20, 2) := by decide +kernel
theorem dX6_shelf_101 : decode cX6_shelf 101 = .ok (.isub, 1) := by decide +kernel
theorem dX6_shelf_102 : decode cX6_shelf 102 = .ok (.iaload, 1) := by decide +kernel
theorem dX6_shelf_103 : decode cX6_shelf 103 = .ok (.ireturn, 1) := by decide +kernel
theorem dX6_shelf_104 : decode cX6_shelf 104 = .ok (.iconst (-1), 1) := by decide +kernel
theorem dX6_shelf_105 : decode cX6_shelf 105 = .ok (.ireturn, 1) := by decide +kernel
theorem dX6_place_0 : decode cX6_place 0 = .ok (.aload_n 0, 1) := by decide +kernel
theorem dX6_place_1 : decode cX6_place 1 = .ok (.getfield 10, 3) := by decide +kernel
theorem dX6_place_4 : decode cX6_place 4 = .ok (.iload_n 1, 1) := by decide +kernel
theorem dX6_place_5 : decode cX6_place 5 = .ok (.invokevirtual 138, 3) := by decide +kernel
theorem dX6_place_8 : decode cX6_place 8 = .ok (.ifCond .eq 30, 3) := by decide +kernel
theorem dX6_place_11 : decode cX6_place 11 = .ok (.aload_n 0, 1) := by decide +kernel
theorem dX6_place_12 : decode cX6_place 12 = .ok (.getfield 10, 3) := by decide +kernel
theorem dX6_place_15 : decode cX6_place 15 = .ok (.iload_n 2, 1) := by decide +kernel
theorem dX6_place_16 : decode cX6_place 16 = .ok (.invokevirtual 151, 3) := by decide +kernel
theorem dX6_place_19 : decode cX6_place 19 = .ok (.ifCond .eq 19, 3) := by decide +kernel
theorem dX6_place_22 : decode cX6_place 22 = .ok (.aload_n 0, 1) := by decide +kernel
theorem dX6_place_23 : decode cX6_place 23 = .ok (.getfield 10, 3) := by decide +kernel
theorem dX6_place_26 : decode cX6_place 26 = .ok (.getfield 122, 3) := by decide +kernel
theorem dX6_place_29 : decode cX6_place 29 = .ok (.iload_n 1, 1) := by decide +kernel
theorem dX6_place_30 : decode cX6_place 30 = .ok (.aaload, 1) := by decide +kernel
theorem dX6_place_31 : decode cX6_place 31 = .ok (.iload_n 2, 1) := by decide +kernel
theorem dX6_place_32 : decode cX6_place 32 = .ok (.invokevirtual 154, 3) := by decide +kernel
theorem dX6_place_35 : decode cX6_place 35 = .ok (.goto 4, 3) := by decide +kernel
theorem dX6_place_38 : decode cX6_place 38 = .ok (.iconst (-1), 1) := by decide +kernel
theorem dX6_place_39 : decode cX6_place 39 = .ok (.ireturn, 1) := by decide +kernel
theorem dX6_want_0 : decode cX6_want 0 = .ok (.aload_n 0, 1) := by decide +kernel
theorem dX6_want_1 : decode cX6_want 1 = .ok (.getfield 10, 3) := by decide +kernel
theorem dX6_want_4 : decode cX6_want 4 = .ok (.iload_n 1, 1) := by decide +kernel
theorem dX6_want_5 : decode cX6_want 5 = .ok (.invokevirtual 157, 3) := by decide +kernel
theorem dX6_want_8 : decode cX6_want 8 = .ok (.ifCond .eq 15, 3) := by decide +kernel
theorem dX6_want_11 : decode cX6_want 11 = .ok (.aload_n 0, 1) := by decide +kernel
theorem dX6_want_12 : decode cX6_want 12 = .ok (.getfield 10, 3) := by decide +kernel
theorem dX6_want_15 : decode cX6_want 15 = .ok (.getfield 160, 3) := by decide +kernel
theorem dX6_want_18 : decode cX6_want 18 = .ok (.iload_n 1, 1) := by decide +kernel
theorem dX6_want_19 : decode cX6_want 19 = .ok (.iaload, 1) := by decide +kernel
theorem dX6_want_20 : decode cX6_want 20 = .ok (.goto 4, 3) := by decide +kernel
theorem dX6_want_23 : decode cX6_want 23 = .ok (.iconst (-1), 1) := by decide +kernel
theorem dX6_want_24 : decode cX6_want 24 = .ok (.ireturn, 1) := by decide +kernel
theorem dX6_alter_0 : decode cX6_alter 0 = .ok (.aload_n 0, 1) := by decide +kernel
theorem dX6_alter_1 : decode cX6_alter 1 = .ok (.getfield 10, 3) := by decide +kernel
theorem dX6_alter_4 : decode cX6_alter 4 = .ok (.iload_n 1, 1) := by decide +kernel
theorem dX6_alter_5 : decode cX6_alter 5 = .ok (.invokevirtual 138, 3) := by decide +kernel
theorem dX6_alter_8 : decode cX6_alter 8 = .ok (.ifCond .eq 12, 3) := by decide +kernel
theorem dX6_alter_11 : decode cX6_alter 11 = .ok (.iload_n 2, 1) := by decide +kernel
theorem dX6_alter_12 : decode cX6_alter 12 = .ok (.iconst 0, 1) := by decide +kernel
theorem dX6_alter_13 : decode cX6_alter 13 = .ok (.iconst 3, 1) := by decide +kernel
theorem dX6_alter_14 : decode cX6_alter 14 = .ok (.invokestatic 69, 3) := by decide +kernel
theorem dX6_alter_17 : decode cX6_alter 17 = .ok (.ifCond .ne 5, 3) := by decide +kernel
theorem dX6_alter_20 : decode cX6_alter 20 = .ok (.iconst (-1), 1) := by decide +kernel
theorem dX6_alter_21 : decode cX6_alter 21 = .ok (.ireturn, 1) := by decide +kernel
theorem dX6_alter_22 : decode cX6_alter 22 = .ok (.aload_n 0, 1) := by decide +kernel
theorem dX6_alter_23 : decode cX6_alter 23 = .ok (.getfield 10, 3) := by decide +kernel
theorem dX6_alter_26 : decode cX6_alter 26 = .ok (.getfield 122, 3) := by decide +kernel
theorem dX6_alter_29 : decode cX6_alter 29 = .ok (.iload_n 1, 1) := by decide +kernel
theorem dX6_alter_30 : decode cX6_alter 30 = .ok (.aaload, 1) := by decide +kernel
theorem dX6_alter_31 : decode cX6_alter 31 = .ok (.getfield 142, 3) := by decide +kernel
theorem dX6_alter_34 : decode cX6_alter 34 = .ok (.istore_n 3, 1) := by decide +kernel
theorem dX6_alter_35 : decode cX6_alter 35 = .ok (.aload_n 0, 1) := by decide +kernel
theorem dX6_alter_36 : decode cX6_alter 36 = .ok (.getfield 10, 3) := by decide +kernel
theorem dX6_alter_39 : decode cX6_alter 39 = .ok (.getfield 122, 3) := by decide +kernel
theorem dX6_alter_42 : decode cX6_alter 42 = .ok (.iload_n 1, 1) := by decide +kernel
theorem dX6_alter_43 : decode cX6_alter 43 = .ok (.aaload, 1) := by decide +kernel
theorem dX6_alter_44 : decode cX6_alter 44 = .ok (.iload_n 2, 1) := by decide +kernel
theorem dX6_alter_45 : decode cX6_alter 45 = .ok (.putfield 142, 3) := by decide +kernel
theorem dX6_alter_48 : decode cX6_alter 48 = .ok (.iload_n 3, 1) := by decide +kernel
theorem dX6_alter_49 : decode cX6_alter 49 = .ok (.ireturn, 1) := by decide +kernel
theorem dX6_put_0 : decode cX6_put 0 = .ok (.iload_n 1, 1) := by decide +kernel
theorem dX6_put_1 : decode cX6_put 1 = .ok (.iconst 0, 1) := by decide +kernel
theorem dX6_put_2 : decode cX6_put 2 = .ok (.iconst 3, 1) := by decide +kernel
theorem dX6_put_3 : decode cX6_put 3 = .ok (.invokestatic 69, 3) := by decide +kernel
theorem dX6_put_6 : decode cX6_put 6 = .ok (.ifCond .ne 5, 3) := by decide +kernel
theorem dX6_put_9 : decode cX6_put 9 = .ok (.iconst (-1), 1) := by decide +kernel
theorem dX6_put_10 : decode cX6_put 10 = .ok (.ireturn, 1) := by decide +kernel
theorem dX6_put_11 : decode cX6_put 11 = .ok (.aload_n 0, 1) := by decide +kernel
theorem dX6_put_12 : decode cX6_put 12 = .ok (.getfield 10, 3) := by decide +kernel
theorem dX6_put_15 : decode cX6_put 15 = .ok (.iload_n 1, 1) := by decide +kernel
theorem dX6_put_16 : decode cX6_put 16 = .ok (.invokevirtual 163, 3) := by decide +kernel
theorem dX6_put_19 : decode cX6_put 19 = .ok (.ifCond .eq 13, 3) := by decide +kernel
theorem dX6_put_22 : decode cX6_put 22 = .ok (.aload_n 0, 1) := by decide +kernel
theorem dX6_put_23 : decode cX6_put 23 = .ok (.getfield 10, 3) := by decide +kernel
theorem dX6_put_26 : decode cX6_put 26 = .ok (.getfield 100, 3) := by decide +kernel
theorem dX6_put_29 : decode cX6_put 29 = .ok (.goto 5, 3) := by decide +kernel
theorem dX6_put_32 : decode cX6_put 32 = .ok (.bipush (-3), 2) := by decide +kernel
theorem dX6_put_34 : decode cX6_put 34 = .ok (.ireturn, 1) := by decide +kernel
theorem dX6_cut_0 : decode cX6_cut 0 = .ok (.iload_n 1, 1) := by decide +kernel
theorem dX6_cut_1 : decode cX6_cut 1 = .ok (.iconst 0, 1) := by decide +kernel
theorem dX6_cut_2 : decode cX6_cut 2 = .ok (.aload_n 0, 1) := by decide +kernel
theorem dX6_cut_3 : decode cX6_cut 3 = .ok (.getfield 10, 3) := by decide +kernel
theorem dX6_cut_6 : decode cX6_cut 6 = .ok (.getfield 100, 3) := by decide +kernel
theorem dX6_cut_9 : decode cX6_cut 9 = .ok (.invokestatic 69, 3) := by decide +kernel
theorem dX6_cut_12 : decode cX6_cut 12 = .ok (.ifCond .ne 5, 3) := by decide +kernel
theorem dX6_cut_15 : decode cX6_cut 15 = .ok (.iconst (-1), 1) := by decide +kernel
theorem dX6_cut_16 : decode cX6_cut 16 = .ok (.ireturn, 1) := by decide +kernel
theorem dX6_cut_17 : decode cX6_cut 17 = .ok (.aload_n 0, 1) := by decide +kernel
theorem dX6_cut_18 : decode cX6_cut 18 = .ok (.getfield 10, 3) := by decide +kernel
theorem dX6_cut_21 : decode cX6_cut 21 = .ok (.getfield 100, 3) := by decide +kernel
theorem dX6_cut_24 : decode cX6_cut 24 = .ok (.istore_n 2, 1) := by decide +kernel
theorem dX6_cut_25 : decode cX6_cut 25 = .ok (.aload_n 0, 1) := by decide +kernel
theorem dX6_cut_26 : decode cX6_cut 26 = .ok (.getfield 10, 3) := by decide +kernel
theorem dX6_cut_29 : decode cX6_cut 29 = .ok (.iload_n 1, 1) := by decide +kernel
theorem dX6_cut_30 : decode cX6_cut 30 = .ok (.putfield 100, 3) := by decide +kernel
theorem dX6_cut_33 : decode cX6_cut 33 = .ok (.iload_n 2, 1) := by decide +kernel
theorem dX6_cut_34 : decode cX6_cut 34 = .ok (.ireturn, 1) := by decide +kernel
theorem dX6_stand_0 : decode cX6_stand 0 = .ok (.aload_n 0, 1) := by decide +kernel
theorem dX6_stand_1 : decode cX6_stand 1 = .ok (.getfield 10, 3) := by decide +kernel
theorem dX6_stand_4 : decode cX6_stand 4 = .ok (.iload_n 1, 1) := by decide +kernel
theorem dX6_stand_5 : decode cX6_stand 5 = .ok (.invokevirtual 138, 3) := by decide +kernel
theorem dX6_stand_8 : decode cX6_stand 8 = .ok (.ifCond .eq 25, 3) := by decide +kernel
theorem dX6_stand_11 : decode cX6_stand 11 = .ok (.aload_n 0, 1) := by decide +kernel
theorem dX6_stand_12 : decode cX6_stand 12 = .ok (.getfield 10, 3) := by decide +kernel
theorem dX6_stand_15 : decode cX6_stand 15 = .ok (.iload_n 2, 1) := by decide +kernel
theorem dX6_stand_16 : decode cX6_stand 16 = .ok (.invokevirtual 151, 3) := by decide +kernel
theorem dX6_stand_19 : decode cX6_stand 19 = .ok (.ifCond .eq 14, 3) := by decide +kernel
theorem dX6_stand_22 : decode cX6_stand 22 = .ok (.aload_n 0, 1) := by decide +kernel
theorem dX6_stand_23 : decode cX6_stand 23 = .ok (.getfield 10, 3) := by decide +kernel
theorem dX6_stand_26 : decode cX6_stand 26 = .ok (.iload_n 3, 1) := by decide +kernel
theorem dX6_stand_27 : decode cX6_stand 27 = .ok (.invokevirtual 151, 3) := by decide +kernel
theorem dX6_stand_30 : decode cX6_stand 30 = .ok (.ifCond .ne 5, 3) := by decide +kernel
theorem dX6_stand_33 : decode cX6_stand 33 = .ok (.iconst (-1), 1) := by decide +kernel
theorem dX6_stand_34 : decode cX6_stand 34 = .ok (.ireturn, 1) := by decide +kernel
theorem dX6_stand_35 : decode cX6_stand 35 = .ok (.aload_n 0, 1) := by decide +kernel
theorem dX6_stand_36 : decode cX6_stand 36 = .ok (.getfield 10, 3) := by decide +kernel
theorem dX6_stand_39 : decode cX6_stand 39 = .ok (.getfield 122, 3) := by decide +kernel
theorem dX6_stand_42 : decode cX6_stand 42 = .ok (.iload_n 1, 1) := by decide +kernel
theorem dX6_stand_43 : decode cX6_stand 43 = .ok (.aaload, 1) := by decide +kernel
theorem dX6_stand_44 : decode cX6_stand 44 = .ok (.iload_n 2, 1) := by decide +kernel
theorem dX6_stand_45 : decode cX6_stand 45 = .ok (.invokevirtual 154, 3) := by decide +kernel
theorem dX6_stand_48 : decode cX6_stand 48 = .ok (.istore 4, 2) := by decide +kernel
theorem dX6_stand_50 : decode cX6_stand 50 = .ok (.aload_n 0, 1) := by decide +kernel
theorem dX6_stand_51 : decode cX6_stand 51 = .ok (.getfield 10, 3) := by decide +kernel
theorem dX6_stand_54 : decode cX6_stand 54 = .ok (.getfield 122, 3) := by decide +kernel
theorem dX6_stand_57 : decode cX6_stand 57 = .ok (.iload_n 1, 1) := by decide +kernel
theorem dX6_stand_58 : decode cX6_stand 58 = .ok (.aaload, 1) := by decide +kernel
theorem dX6_stand_59 : decode cX6_stand 59 = .ok (.iload 4, 2) := by decide +kernel
theorem dX6_stand_61 : decode cX6_stand 61 = .ok (.iload_n 3, 1) := by decide +kernel
theorem dX6_stand_62 : decode cX6_stand 62 = .ok (.invokevirtual 166, 3) := by decide +kernel
theorem dX6_stand_65 : decode cX6_stand 65 = .ok (.iload 4, 2) := by decide +kernel
theorem dX6_stand_67 : decode cX6_stand 67 = .ok (.ireturn, 1) := by decide +kernel
theorem dX6_set_0 : decode cX6_set 0 = .ok (.aload_n 0, 1) := by decide +kernel
theorem dX6_set_1 : decode cX6_set 1 = .ok (.getfield 10, 3) := by decide +kernel
theorem dX6_set_4 : decode cX6_set 4 = .ok (.iload_n 1, 1) := by decide +kernel
theorem dX6_set_5 : decode cX6_set 5 = .ok (.invokevirtual 157, 3) := by decide +kernel
theorem dX6_set_8 : decode cX6_set 8 = .ok (.ifCond .eq 14, 3) := by decide +kernel
theorem dX6_set_11 : decode cX6_set 11 = .ok (.aload_n 0, 1) := by decide +kernel
theorem dX6_set_12 : decode cX6_set 12 = .ok (.getfield 10, 3) := by decide +kernel
theorem dX6_set_15 : decode cX6_set 15 = .ok (.iload_n 2, 1) := by decide +kernel
theorem dX6_set_16 : decode cX6_set 16 = .ok (.invokevirtual 151, 3) := by decide +kernel
theorem dX6_set_19 : decode cX6_set 19 = .ok (.ifCond .ne 5, 3) := by decide +kernel
theorem dX6_set_22 : decode cX6_set 22 = .ok (.iconst (-1), 1) := by decide +kernel
theorem dX6_set_23 : decode cX6_set 23 = .ok (.ireturn, 1) := by decide +kernel
theorem dX6_set_24 : decode cX6_set 24 = .ok (.aload_n 0, 1) := by decide +kernel
theorem dX6_set_25 : decode cX6_set 25 = .ok (.getfield 10, 3) := by decide +kernel
theorem dX6_set_28 : decode cX6_set 28 = .ok (.getfield 160, 3) := by decide +kernel
theorem dX6_set_31 : decode cX6_set 31 = .ok (.iload_n 1, 1) := by decide +kernel
theorem dX6_set_32 : decode cX6_set 32 = .ok (.iaload, 1) := by decide +kernel
theorem dX6_set_33 : decode cX6_set 33 = .ok (.istore_n 3, 1) := by decide +kernel
theorem dX6_set_34 : decode cX6_set 34 = .ok (.aload_n 0, 1) := by decide +kernel
theorem dX6_set_35 : decode cX6_set 35 = .ok (.getfield 10, 3) := by decide +kernel
theorem dX6_set_38 : decode cX6_set 38 = .ok (.getfield 160, 3) := by decide +kernel
theorem dX6_set_41 : decode cX6_set 41 = .ok (.iload_n 1, 1) := by decide +kernel
theorem dX6_set_42 : decode cX6_set 42 = .ok (.iload_n 2, 1) := by decide +kernel
theorem dX6_set_43 : decode cX6_set 43 = .ok (.iastore, 1) := by decide +kernel
theorem dX6_set_44 : decode cX6_set 44 = .ok (.iload_n 3, 1) := by decide +kernel
theorem dX6_set_45 : decode cX6_set 45 = .ok (.ireturn, 1) := by decide +kernel
theorem dX6_add_0 : decode cX6_add 0 = .ok (.aload_n 0, 1) := by decide +kernel
theorem dX6_add_1 : decode cX6_add 1 = .ok (.getfield 10, 3) := by decide +kernel
theorem dX6_add_4 : decode cX6_add 4 = .ok (.iload_n 1, 1) := by decide +kernel
theorem dX6_add_5 : decode cX6_add 5 = .ok (.invokevirtual 151, 3) := by decide +kernel
theorem dX6_add_8 : decode cX6_add 8 = .ok (.ifCond .ne 5, 3) := by decide +kernel
theorem dX6_add_11 : decode cX6_add 11 = .ok (.iconst (-1), 1) := by decide +kernel
theorem dX6_add_12 : decode cX6_add 12 = .ok (.ireturn, 1) := by decide +kernel
theorem dX6_add_13 : decode cX6_add 13 = .ok (.aload_n 0, 1) := by decide +kernel
theorem dX6_add_14 : decode cX6_add 14 = .ok (.getfield 10, 3) := by decide +kernel
theorem dX6_add_17 : decode cX6_add 17 = .ok (.iload_n 1, 1) := by decide +kernel
theorem dX6_add_18 : decode cX6_add 18 = .ok (.invokevirtual 169, 3) := by decide +kernel
theorem dX6_add_21 : decode cX6_add 21 = .ok (.ifCond .eq 13, 3) := by decide +kernel
theorem dX6_add_24 : decode cX6_add 24 = .ok (.aload_n 0, 1) := by decide +kernel
theorem dX6_add_25 : decode cX6_add 25 = .ok (.getfield 10, 3) := by decide +kernel
theorem dX6_add_28 : decode cX6_add 28 = .ok (.getfield 103, 3) := by decide +kernel
theorem dX6_add_31 : decode cX6_add 31 = .ok (.goto 5, 3) := by decide +kernel
theorem dX6_add_34 : decode cX6_add 34 = .ok (.bipush (-3), 2) := by decide +kernel
theorem dX6_add_36 : decode cX6_add 36 = .ok (.ireturn, 1) := by decide +kernel
theorem dX6_drop_0 : decode cX6_drop 0 = .ok (.iload_n 1, 1) := by decide +kernel
theorem dX6_drop_1 : decode cX6_drop 1 = .ok (.iconst 0, 1) := by decide +kernel
theorem dX6_drop_2 : decode cX6_drop 2 = .ok (.aload_n 0, 1) := by decide +kernel
theorem dX6_drop_3 : decode cX6_drop 3 = .ok (.getfield 10, 3) := by decide +kernel
theorem dX6_drop_6 : decode cX6_drop 6 = .ok (.getfield 103, 3) := by decide +kernel
theorem dX6_drop_9 : decode cX6_drop 9 = .ok (.invokestatic 69, 3) := by decide +kernel
theorem dX6_drop_12 : decode cX6_drop 12 = .ok (.ifCond .ne 5, 3) := by decide +kernel
theorem dX6_drop_15 : decode cX6_drop 15 = .ok (.iconst (-1), 1) := by decide +kernel
theorem dX6_drop_16 : decode cX6_drop 16 = .ok (.ireturn, 1) := by decide +kernel
theorem dX6_drop_17 : decode cX6_drop 17 = .ok (.aload_n 0, 1) := by decide +kernel
theorem dX6_drop_18 : decode cX6_drop 18 = .ok (.getfield 10, 3) := by decide +kernel
theorem dX6_drop_21 : decode cX6_drop 21 = .ok (.getfield 103, 3) := by decide +kernel
theorem dX6_drop_24 : decode cX6_drop 24 = .ok (.istore_n 2, 1) := by decide +kernel
theorem dX6_drop_25 : decode cX6_drop 25 = .ok (.aload_n 0, 1) := by decide +kernel
theorem dX6_drop_26 : decode cX6_drop 26 = .ok (.getfield 10, 3) := by decide +kernel
theorem dX6_drop_29 : decode cX6_drop 29 = .ok (.iload_n 1, 1) := by decide +kernel
theorem dX6_drop_30 : decode cX6_drop 30 = .ok (.putfield 103, 3) := by decide +kernel
theorem dX6_drop_33 : decode cX6_drop 33 = .ok (.iload_n 2, 1) := by decide +kernel
theorem dX6_drop_34 : decode cX6_drop 34 = .ok (.ireturn, 1) := by decide +kernel
theorem dX6_take_0 : decode cX6_take 0 = .ok (.aload_n 0, 1) := by decide +kernel
theorem dX6_take_1 : decode cX6_take 1 = .ok (.getfield 10, 3) := by decide +kernel
theorem dX6_take_4 : decode cX6_take 4 = .ok (.iload_n 1, 1) := by decide +kernel
theorem dX6_take_5 : decode cX6_take 5 = .ok (.invokevirtual 151, 3) := by decide +kernel
theorem dX6_take_8 : decode cX6_take 8 = .ok (.ifCond .eq 14, 3) := by decide +kernel
theorem dX6_take_11 : decode cX6_take 11 = .ok (.aload_n 0, 1) := by decide +kernel
theorem dX6_take_12 : decode cX6_take 12 = .ok (.getfield 10, 3) := by decide +kernel
theorem dX6_take_15 : decode cX6_take 15 = .ok (.iload_n 1, 1) := by decide +kernel
theorem dX6_take_16 : decode cX6_take 16 = .ok (.invokevirtual 172, 3) := by decide +kernel
theorem dX6_take_19 : decode cX6_take 19 = .ok (.goto 4, 3) := by decide +kernel
theorem dX6_take_22 : decode cX6_take 22 = .ok (.iconst (-1), 1) := by decide +kernel
theorem dX6_take_23 : decode cX6_take 23 = .ok (.ireturn, 1) := by decide +kernel
theorem dX6_steps_0 : decode cX6_steps 0 = .ok (.iload_n 1, 1) := by decide +kernel
theorem dX6_steps_1 : decode cX6_steps 1 = .ok (.iconst 0, 1) := by decide +kernel
theorem dX6_steps_2 : decode cX6_steps 2 = .ok (.bipush 100, 2) := by decide +kernel
theorem dX6_steps_4 : decode cX6_steps 4 = .ok (.invokestatic 69, 3) := by decide +kernel
theorem dX6_steps_7 : decode cX6_steps 7 = .ok (.ifCond .ne 5, 3) := by decide +kernel
theorem dX6_steps_10 : decode cX6_steps 10 = .ok (.iconst (-1), 1) := by decide +kernel
theorem dX6_steps_11 : decode cX6_steps 11 = .ok (.ireturn, 1) := by decide +kernel
theorem dX6_steps_12 : decode cX6_steps 12 = .ok (.aload_n 0, 1) := by decide +kernel
theorem dX6_steps_13 : decode cX6_steps 13 = .ok (.getfield 10, 3) := by decide +kernel
theorem dX6_steps_16 : decode cX6_steps 16 = .ok (.getfield 106, 3) := by decide +kernel
theorem dX6_steps_19 : decode cX6_steps 19 = .ok (.iload_n 1, 1) := by decide +kernel
theorem dX6_steps_20 : decode cX6_steps 20 = .ok (.iadd, 1) := by decide +kernel
theorem dX6_steps_21 : decode cX6_steps 21 = .ok (.sipush 10000, 3) := by decide +kernel
theorem dX6_steps_24 : decode cX6_steps 24 = .ok (.if_icmp .lt 6, 3) := by decide +kernel
theorem dX6_steps_27 : decode cX6_steps 27 = .ok (.bipush (-3), 2) := by decide +kernel
theorem dX6_steps_29 : decode cX6_steps 29 = .ok (.ireturn, 1) := by decide +kernel
theorem dX6_steps_30 : decode cX6_steps 30 = .ok (.iconst 0, 1) := by decide +kernel
theorem dX6_steps_31 : decode cX6_steps 31 = .ok (.istore_n 2, 1) := by decide +kernel
theorem dX6_steps_32 : decode cX6_steps 32 = .ok (.iconst 0, 1) := by decide +kernel
theorem dX6_steps_33 : decode cX6_steps 33 = .ok (.istore_n 3, 1) := by decide +kernel
theorem dX6_steps_34 : decode cX6_steps 34 = .ok (.iload_n 3, 1) := by decide +kernel
theorem dX6_steps_35 : decode cX6_steps 35 = .ok (.iload_n 1, 1) := by decide +kernel
theorem dX6_steps_36 : decode cX6_steps 36 = .ok (.if_icmp .ge 19, 3) := by decide +kernel
theorem dX6_steps_39 : decode cX6_steps 39 = .ok (.iload_n 2, 1) := by decide +kernel
theorem dX6_steps_40 : decode cX6_steps 40 = .ok (.aload_n 0, 1) := by decide +kernel
theorem dX6_steps_41 : decode cX6_steps 41 = .ok (.getfield 10, 3) := by decide +kernel
theorem dX6_steps_44 : decode cX6_steps 44 = .ok (.invokevirtual 175, 3) := by decide +kernel
theorem dX6_steps_47 : decode cX6_steps 47 = .ok (.iadd, 1) := by decide +kernel
theorem dX6_steps_48 : decode cX6_steps 48 = .ok (.istore_n 2, 1) := by decide +kernel
theorem dX6_steps_49 : decode cX6_steps 49 = .ok (.iinc 3 1, 3) := by decide +kernel
theorem dX6_steps_52 : decode cX6_steps 52 = .ok (.goto (-18), 3) := by decide +kernel
theorem dX6_steps_55 : decode cX6_steps 55 = .ok (.iload_n 2, 1) := by decide +kernel
theorem dX6_steps_56 : decode cX6_steps 56 = .ok (.ireturn, 1) := by decide +kernel
theorem dX6_runs_0 : decode cX6_runs 0 = .ok (.iload_n 1, 1) := by decide +kernel
theorem dX6_runs_1 : decode cX6_runs 1 = .ok (.iconst 0, 1) := by decide +kernel
theorem dX6_runs_2 : decode cX6_runs 2 = .ok (.sipush 200, 3) := by decide +kernel
theorem dX6_runs_5 : decode cX6_runs 5 = .ok (.invokestatic 69, 3) := by decide +kernel
theorem dX6_runs_8 : decode cX6_runs 8 = .ok (.ifCond .ne 5, 3) := by decide +kernel
theorem dX6_runs_11 : decode cX6_runs 11 = .ok (.iconst (-1), 1) := by decide +kernel
theorem dX6_runs_12 : decode cX6_runs 12 = .ok (.ireturn, 1) := by decide +kernel
theorem dX6_runs_13 : decode cX6_runs 13 = .ok (.aload_n 0, 1) := by decide +kernel
theorem dX6_runs_14 : decode cX6_runs 14 = .ok (.getfield 16, 3) := by decide +kernel
theorem dX6_runs_17 : decode cX6_runs 17 = .ok (.aload_n 0, 1) := by decide +kernel
theorem dX6_runs_18 : decode cX6_runs 18 = .ok (.getfield 10, 3) := by decide +kernel
theorem dX6_runs_21 : decode cX6_runs 21 = .ok (.invokevirtual 90, 3) := by decide +kernel
theorem dX6_runs_24 : decode cX6_runs 24 = .ok (.iload_n 2, 1) := by decide +kernel
theorem dX6_runs_25 : decode cX6_runs 25 = .ok (.tableswitch 66 0 3 #[31, 42, 48, 57], 31) := by decide +kernel
theorem dX6_runs_56 : decode cX6_runs 56 = .ok (.aload_n 0, 1) := by decide +kernel
theorem dX6_runs_57 : decode cX6_runs 57 = .ok (.getfield 16, 3) := by decide +kernel
theorem dX6_runs_60 : decode cX6_runs 60 = .ok (.iload_n 1, 1) := by decide +kernel
theorem dX6_runs_61 : decode cX6_runs 61 = .ok (.ldc 117, 2) := by decide +kernel
theorem dX6_runs_63 : decode cX6_runs 63 = .ok (.invokevirtual 178, 3) := by decide +kernel
theorem dX6_runs_66 : decode cX6_runs 66 = .ok (.ireturn, 1) := by decide +kernel
theorem dX6_runs_67 : decode cX6_runs 67 = .ok (.aload_n 0, 1) := by decide +kernel
theorem dX6_runs_68 : decode cX6_runs 68 = .ok (.iload_n 1, 1) := by decide +kernel
theorem dX6_runs_69 : decode cX6_runs 69 = .ok (.invokevirtual 182, 3) := by decide +kernel
theorem dX6_runs_72 : decode cX6_runs 72 = .ok (.ireturn, 1) := by decide +kernel
theorem dX6_runs_73 : decode cX6_runs 73 = .ok (.aload_n 0, 1) := by decide +kernel
theorem dX6_runs_74 : decode cX6_runs 74 = .ok (.getfield 16, 3) := by decide +kernel
theorem dX6_runs_77 : decode cX6_runs 77 = .ok (.iload_n 1, 1) := by decide +kernel
theorem dX6_runs_78 : decode cX6_runs 78 = .ok (.invokevirtual 185, 3) := by decide +kernel
theorem dX6_runs_81 : decode cX6_runs 81 = .ok (.ireturn, 1) := by decide +kernel
theorem dX6_runs_82 : decode cX6_runs 82 = .ok (.aload_n 0, 1) := by decide +kernel
theorem dX6_runs_83 : decode cX6_runs 83 = .ok (.getfield 16, 3) := by decide +kernel
theorem dX6_runs_86 : decode cX6_runs 86 = .ok (.iload_n 1, 1) := by decide +kernel
theorem dX6_runs_87 : decode cX6_runs 87 = .ok (.invokevirtual 188, 3) := by decide +kernel
theorem dX6_runs_90 : decode cX6_runs 90 = .ok (.ireturn, 1) := by decide +kernel
theorem dX6_runs_91 : decode cX6_runs 91 = .ok (.iconst (-1), 1) := by decide +kernel
theorem dX6_runs_92 : decode cX6_runs 92 = .ok (.ireturn, 1) := by decide +kernel
theorem dX6_cheapestIn_0 : decode cX6_cheapestIn 0 = .ok (.aload_n 0, 1) := by decide +kernel
theorem dX6_cheapestIn_1 : decode cX6_cheapestIn 1 = .ok (.getfield 50, 3) := by decide +kernel
theorem dX6_cheapestIn_4 : decode cX6_cheapestIn 4 = .ok (.ldc 117, 2) := by decide +kernel
theorem dX6_cheapestIn_6 : decode cX6_cheapestIn 6 = .ok (.invokevirtual 118, 3) := by decide +kernel
theorem dX6_cheapestIn_9 : decode cX6_cheapestIn 9 = .ok (.iconst 0, 1) := by decide +kernel
theorem dX6_cheapestIn_10 : decode cX6_cheapestIn 10 = .ok (.istore_n 2, 1) := by decide +kernel
theorem dX6_cheapestIn_11 : decode cX6_cheapestIn 11 = .ok (.iload_n 2, 1) := by decide +kernel
theorem dX6_cheapestIn_12 : decode cX6_cheapestIn 12 = .ok (.aload_n 0, 1) := by decide +kernel
theorem dX6_cheapestIn_13 : decode cX6_cheapestIn 13 = .ok (.getfield 16, 3) := by decide +kernel
theorem dX6_cheapestIn_16 : decode cX6_cheapestIn 16 = .ok (.getfield 100, 3) := by decide +kernel
theorem dX6_cheapestIn_19 : decode cX6_cheapestIn 19 = .ok (.if_icmp .ge 28, 3) := by decide +kernel
theorem dX6_cheapestIn_22 : decode cX6_cheapestIn 22 = .ok (.aload_n 0, 1) := by decide +kernel
theorem dX6_cheapestIn_23 : decode cX6_cheapestIn 23 = .ok (.getfield 50, 3) := by decide +kernel
theorem dX6_cheapestIn_26 : decode cX6_cheapestIn 26 = .ok (.iload_n 2, 1) := by decide +kernel
theorem dX6_cheapestIn_27 : decode cX6_cheapestIn 27 = .ok (.aload_n 0, 1) := by decide +kernel
theorem dX6_cheapestIn_28 : decode cX6_cheapestIn 28 = .ok (.getfield 16, 3) := by decide +kernel
theorem dX6_cheapestIn_31 : decode cX6_cheapestIn 31 = .ok (.iload_n 2, 1) := by decide +kernel
theorem dX6_cheapestIn_32 : decode cX6_cheapestIn 32 = .ok (.iload_n 1, 1) := by decide +kernel
theorem dX6_cheapestIn_33 : decode cX6_cheapestIn 33 = .ok (.ldc 117, 2) := by decide +kernel
theorem dX6_cheapestIn_35 : decode cX6_cheapestIn 35 = .ok (.invokevirtual 191, 3) := by decide +kernel
theorem dX6_cheapestIn_38 : decode cX6_cheapestIn 38 = .ok (.invokevirtual 131, 3) := by decide +kernel
theorem dX6_cheapestIn_41 : decode cX6_cheapestIn 41 = .ok (.iinc 2 1, 3) := by decide +kernel
theorem dX6_cheapestIn_44 : decode cX6_cheapestIn 44 = .ok (.goto (-33), 3) := by decide +kernel
theorem dX6_cheapestIn_47 : decode cX6_cheapestIn 47 = .ok (.aload_n 0, 1) := by decide +kernel
theorem dX6_cheapestIn_48 : decode cX6_cheapestIn 48 = .ok (.getfield 50, 3) := by decide +kernel
theorem dX6_cheapestIn_51 : decode cX6_cheapestIn 51 = .ok (.getfield 135, 3) := by decide +kernel
theorem dX6_cheapestIn_54 : decode cX6_cheapestIn 54 = .ok (.ireturn, 1) := by decide +kernel
theorem dX6_paid_0 : decode cX6_paid 0 = .ok (.aload_n 0, 1) := by decide +kernel
theorem dX6_paid_1 : decode cX6_paid 1 = .ok (.getfield 10, 3) := by decide +kernel
theorem dX6_paid_4 : decode cX6_paid 4 = .ok (.iload_n 1, 1) := by decide +kernel
theorem dX6_paid_5 : decode cX6_paid 5 = .ok (.invokevirtual 138, 3) := by decide +kernel
theorem dX6_paid_8 : decode cX6_paid 8 = .ok (.ifCond .eq 14, 3) := by decide +kernel
theorem dX6_paid_11 : decode cX6_paid 11 = .ok (.iload_n 2, 1) := by decide +kernel
theorem dX6_paid_12 : decode cX6_paid 12 = .ok (.iconst 0, 1) := by decide +kernel
theorem dX6_paid_13 : decode cX6_paid 13 = .ok (.sipush 200, 3) := by decide +kernel
theorem dX6_paid_16 : decode cX6_paid 16 = .ok (.invokestatic 69, 3) := by decide +kernel
theorem dX6_paid_19 : decode cX6_paid 19 = .ok (.ifCond .ne 5, 3) := by decide +kernel
theorem dX6_paid_22 : decode cX6_paid 22 = .ok (.iconst (-1), 1) := by decide +kernel
theorem dX6_paid_23 : decode cX6_paid 23 = .ok (.ireturn, 1) := by decide +kernel
theorem dX6_paid_24 : decode cX6_paid 24 = .ok (.aload_n 0, 1) := by decide +kernel
theorem dX6_paid_25 : decode cX6_paid 25 = .ok (.getfield 16, 3) := by decide +kernel
theorem dX6_paid_28 : decode cX6_paid 28 = .ok (.aload_n 0, 1) := by decide +kernel
theorem dX6_paid_29 : decode cX6_paid 29 = .ok (.getfield 10, 3) := by decide +kernel
theorem dX6_paid_32 : decode cX6_paid 32 = .ok (.invokevirtual 90, 3) := by decide +kernel
theorem dX6_paid_35 : decode cX6_paid 35 = .ok (.aload_n 0, 1) := by decide +kernel
theorem dX6_paid_36 : decode cX6_paid 36 = .ok (.getfield 16, 3) := by decide +kernel
theorem dX6_paid_39 : decode cX6_paid 39 = .ok (.iload_n 1, 1) := by decide +kernel
theorem dX6_paid_40 : decode cX6_paid 40 = .ok (.iload_n 2, 1) := by decide +kernel
theorem dX6_paid_41 : decode cX6_paid 41 = .ok (.ldc 117, 2) := by decide +kernel
theorem dX6_paid_43 : decode cX6_paid 43 = .ok (.invokevirtual 191, 3) := by decide +kernel
theorem dX6_paid_46 : decode cX6_paid 46 = .ok (.ireturn, 1) := by decide +kernel
theorem dX6_ahead_0 : decode cX6_ahead 0 = .ok (.aload_n 0, 1) := by decide +kernel
theorem dX6_ahead_1 : decode cX6_ahead 1 = .ok (.getfield 10, 3) := by decide +kernel
theorem dX6_ahead_4 : decode cX6_ahead 4 = .ok (.iload_n 1, 1) := by decide +kernel
theorem dX6_ahead_5 : decode cX6_ahead 5 = .ok (.invokevirtual 138, 3) := by decide +kernel
theorem dX6_ahead_8 : decode cX6_ahead 8 = .ok (.ifCond .eq 25, 3) := by decide +kernel
theorem dX6_ahead_11 : decode cX6_ahead 11 = .ok (.iload_n 2, 1) := by decide +kernel
theorem dX6_ahead_12 : decode cX6_ahead 12 = .ok (.iconst 0, 1) := by decide +kernel
theorem dX6_ahead_13 : decode cX6_ahead 13 = .ok (.sipush 200, 3) := by decide +kernel
theorem dX6_ahead_16 : decode cX6_ahead 16 = .ok (.invokestatic 69, 3) := by decide +kernel
theorem dX6_ahead_19 : decode cX6_ahead 19 = .ok (.ifCond .eq 14, 3) := by decide +kernel
theorem dX6_ahead_22 : decode cX6_ahead 22 = .ok (.aload_n 0, 1) := by decide +kernel
theorem dX6_ahead_23 : decode cX6_ahead 23 = .ok (.getfield 10, 3) := by decide +kernel
theorem dX6_ahead_26 : decode cX6_ahead 26 = .ok (.iload_n 3, 1) := by decide +kernel
theorem dX6_ahead_27 : decode cX6_ahead 27 = .ok (.invokevirtual 151, 3) := by decide +kernel
theorem dX6_ahead_30 : decode cX6_ahead 30 = .ok (.ifCond .ne 5, 3) := by decide +kernel
theorem dX6_ahead_33 : decode cX6_ahead 33 = .ok (.iconst (-1), 1) := by decide +kernel
theorem dX6_ahead_34 : decode cX6_ahead 34 = .ok (.ireturn, 1) := by decide +kernel
theorem dX6_ahead_35 : decode cX6_ahead 35 = .ok (.aload_n 0, 1) := by decide +kernel
theorem dX6_ahead_36 : decode cX6_ahead 36 = .ok (.getfield 16, 3) := by decide +kernel
theorem dX6_ahead_39 : decode cX6_ahead 39 = .ok (.aload_n 0, 1) := by decide +kernel
theorem dX6_ahead_40 : decode cX6_ahead 40 = .ok (.getfield 10, 3) := by decide +kernel
theorem dX6_ahead_43 : decode cX6_ahead 43 = .ok (.invokevirtual 90, 3) := by decide +kernel
theorem dX6_ahead_46 : decode cX6_ahead 46 = .ok (.aload_n 0, 1) := by decide +kernel
theorem dX6_ahead_47 : decode cX6_ahead 47 = .ok (.getfield 16, 3) := by decide +kernel
theorem dX6_ahead_50 : decode cX6_ahead 50 = .ok (.iload_n 1, 1) := by decide +kernel
theorem dX6_ahead_51 : decode cX6_ahead 51 = .ok (.iload_n 2, 1) := by decide +kernel
theorem dX6_ahead_52 : decode cX6_ahead 52 = .ok (.ldc 117, 2) := by decide +kernel
theorem dX6_ahead_54 : decode cX6_ahead 54 = .ok (.invokevirtual 191, 3) := by decide +kernel
theorem dX6_ahead_57 : decode cX6_ahead 57 = .ok (.pop, 1) := by decide +kernel
theorem dX6_ahead_58 : decode cX6_ahead 58 = .ok (.aload_n 0, 1) := by decide +kernel
theorem dX6_ahead_59 : decode cX6_ahead 59 = .ok (.getfield 16, 3) := by decide +kernel
theorem dX6_ahead_62 : decode cX6_ahead 62 = .ok (.getfield 122, 3) := by decide +kernel
theorem dX6_ahead_65 : decode cX6_ahead 65 = .ok (.iload_n 1, 1) := by decide +kernel
theorem dX6_ahead_66 : decode cX6_ahead 66 = .ok (.aaload, 1) := by decide +kernel
theorem dX6_ahead_67 : decode cX6_ahead 67 = .ok (.getfield 145, 3) := by decide +kernel
theorem dX6_ahead_70 : decode cX6_ahead 70 = .ok (.iload_n 3, 1) := by decide +kernel
theorem dX6_ahead_71 : decode cX6_ahead 71 = .ok (.iaload, 1) := by decide +kernel
theorem dX6_ahead_72 : decode cX6_ahead 72 = .ok (.ireturn, 1) := by decide +kernel
theorem dX6_when_0 : decode cX6_when 0 = .ok (.aload_n 0, 1) := by decide +kernel
theorem dX6_when_1 : decode cX6_when 1 = .ok (.getfield 10, 3) := by decide +kernel
theorem dX6_when_4 : decode cX6_when 4 = .ok (.iload_n 1, 1) := by decide +kernel
theorem dX6_when_5 : decode cX6_when 5 = .ok (.invokevirtual 138, 3) := by decide +kernel
theorem dX6_when_8 : decode cX6_when 8 = .ok (.ifCond .eq 14, 3) := by decide +kernel
theorem dX6_when_11 : decode cX6_when 11 = .ok (.aload_n 0, 1) := by decide +kernel
theorem dX6_when_12 : decode cX6_when 12 = .ok (.getfield 10, 3) := by decide +kernel
theorem dX6_when_15 : decode cX6_when 15 = .ok (.iload_n 2, 1) := by decide +kernel
theorem dX6_when_16 : decode cX6_when 16 = .ok (.invokevirtual 151, 3) := by decide +kernel
theorem dX6_when_19 : decode cX6_when 19 = .ok (.ifCond .ne 5, 3) := by decide +kernel
theorem dX6_when_22 : decode cX6_when 22 = .ok (.iconst (-1), 1) := by decide +kernel
theorem dX6_when_23 : decode cX6_when 23 = .ok (.ireturn, 1) := by decide +kernel
theorem dX6_when_24 : decode cX6_when 24 = .ok (.aload_n 0, 1) := by decide +kernel
theorem dX6_when_25 : decode cX6_when 25 = .ok (.getfield 16, 3) := by decide +kernel
theorem dX6_when_28 : decode cX6_when 28 = .ok (.aload_n 0, 1) := by decide +kernel
theorem dX6_when_29 : decode cX6_when 29 = .ok (.getfield 10, 3) := by decide +kernel
theorem dX6_when_32 : decode cX6_when 32 = .ok (.invokevirtual 90, 3) := by decide +kernel
theorem dX6_when_35 : decode cX6_when 35 = .ok (.iconst 0, 1) := by decide +kernel
theorem dX6_when_36 : decode cX6_when 36 = .ok (.istore_n 3, 1) := by decide +kernel
theorem dX6_when_37 : decode cX6_when 37 = .ok (.iload_n 3, 1) := by decide +kernel
theorem dX6_when_38 : decode cX6_when 38 = .ok (.sipush 200, 3) := by decide +kernel
theorem dX6_when_41 : decode cX6_when 41 = .ok (.if_icmp .gt 39, 3) := by decide +kernel
theorem dX6_when_44 : decode cX6_when 44 = .ok (.aload_n 0, 1) := by decide +kernel
theorem dX6_when_45 : decode cX6_when 45 = .ok (.getfield 16, 3) := by decide +kernel
theorem dX6_when_48 : decode cX6_when 48 = .ok (.getfield 122, 3) := by decide +kernel
theorem dX6_when_51 : decode cX6_when 51 = .ok (.iload_n 1, 1) := by decide +kernel
theorem dX6_when_52 : decode cX6_when 52 = .ok (.aaload, 1) := by decide +kernel
theorem dX6_when_53 : decode cX6_when 53 = .ok (.getfield 145, 3) := by decide +kernel
theorem dX6_when_56 : decode cX6_when 56 = .ok (.iconst 0, 1) := by decide +kernel
theorem dX6_when_57 : decode cX6_when 57 = .ok (.iaload, 1) := by decide +kernel
theorem dX6_when_58 : decode cX6_when 58 = .ok (.iload_n 2, 1) := by decide +kernel
theorem dX6_when_59 : decode cX6_when 59 = .ok (.if_icmp .ne 5, 3) := by decide +kernel
theorem dX6_when_62 : decode cX6_when 62 = .ok (.iload_n 3, 1) := by decide +kernel
theorem dX6_when_63 : decode cX6_when 63 = .ok (.ireturn, 1) := by decide +kernel
theorem dX6_when_64 : decode cX6_when 64 = .ok (.aload_n 0, 1) := by decide +kernel
theorem dX6_when_65 : decode cX6_when 65 = .ok (.getfield 16, 3) := by decide +kernel
theorem dX6_when_68 : decode cX6_when 68 = .ok (.iload_n 1, 1) := by decide +kernel
theorem dX6_when_69 : decode cX6_when 69 = .ok (.iload_n 3, 1) := by decide +kernel
theorem dX6_when_70 : decode cX6_when 70 = .ok (.invokevirtual 195, 3) := by decide +kernel
theorem dX6_when_73 : decode cX6_when 73 = .ok (.pop, 1) := by decide +kernel
theorem dX6_when_74 : decode cX6_when 74 = .ok (.iinc 3 1, 3) := by decide +kernel
theorem dX6_when_77 : decode cX6_when 77 = .ok (.goto (-40), 3) := by decide +kernel
theorem dX6_when_80 : decode cX6_when 80 = .ok (.bipush (-4), 2) := by decide +kernel
theorem dX6_when_82 : decode cX6_when 82 = .ok (.ireturn, 1) := by decide +kernel
theorem dX6_again_0 : decode cX6_again 0 = .ok (.aload_n 0, 1) := by decide +kernel
theorem dX6_again_1 : decode cX6_again 1 = .ok (.getfield 16, 3) := by decide +kernel
theorem dX6_again_4 : decode cX6_again 4 = .ok (.aload_n 0, 1) := by decide +kernel
theorem dX6_again_5 : decode cX6_again 5 = .ok (.getfield 10, 3) := by decide +kernel
theorem dX6_again_8 : decode cX6_again 8 = .ok (.invokevirtual 90, 3) := by decide +kernel
theorem dX6_again_11 : decode cX6_again 11 = .ok (.iconst 1, 1) := by decide +kernel
theorem dX6_again_12 : decode cX6_again 12 = .ok (.istore_n 1, 1) := by decide +kernel
theorem dX6_again_13 : decode cX6_again 13 = .ok (.iload_n 1, 1) := by decide +kernel
theorem dX6_again_14 : decode cX6_again 14 = .ok (.sipush 200, 3) := by decide +kernel
theorem dX6_again_17 : decode cX6_again 17 = .ok (.if_icmp .gt 52, 3) := by decide +kernel
theorem dX6_again_20 : decode cX6_again 20 = .ok (.aload_n 0, 1) := by decide +kernel
theorem dX6_again_21 : decode cX6_again 21 = .ok (.getfield 16, 3) := by decide +kernel
theorem dX6_again_24 : decode cX6_again 24 = .ok (.invokevirtual 175, 3) := by decide +kernel
theorem dX6_again_27 : decode cX6_again 27 = .ok (.pop, 1) := by decide +kernel
theorem dX6_again_28 : decode cX6_again 28 = .ok (.aload_n 0, 1) := by decide +kernel
theorem dX6_again_29 : decode cX6_again 29 = .ok (.getfield 16, 3) := by decide +kernel
theorem dX6_again_32 : decode cX6_again 32 = .ok (.iconst 0, 1) := by decide +kernel
theorem dX6_again_33 : decode cX6_again 33 = .ok (.invokevirtual 109, 3) := by decide +kernel
theorem dX6_again_36 : decode cX6_again 36 = .ok (.aload_n 0, 1) := by decide +kernel
theorem dX6_again_37 : decode cX6_again 37 = .ok (.getfield 10, 3) := by decide +kernel
theorem dX6_again_40 : decode cX6_again 40 = .ok (.iconst 0, 1) := by decide +kernel
theorem dX6_again_41 : decode cX6_again 41 = .ok (.invokevirtual 109, 3) := by decide +kernel
theorem dX6_again_44 : decode cX6_again 44 = .ok (.if_icmp .ne 19, 3) := by decide +kernel
theorem dX6_again_47 : decode cX6_again 47 = .ok (.aload_n 0, 1) := by decide +kernel
theorem dX6_again_48 : decode cX6_again 48 = .ok (.getfield 16, 3) := by decide +kernel
theorem dX6_again_51 : decode cX6_again 51 = .ok (.aload_n 0, 1) := by decide +kernel
theorem dX6_again_52 : decode cX6_again 52 = .ok (.getfield 10, 3) := by decide +kernel
theorem dX6_again_55 : decode cX6_again 55 = .ok (.invokevirtual 198, 3) := by decide +kernel
theorem dX6_again_58 : decode cX6_again 58 = .ok (.ifCond .eq 5, 3) := by decide +kernel
theorem dX6_again_61 : decode cX6_again 61 = .ok (.iload_n 1, 1) := by decide +kernel
theorem dX6_again_62 : decode cX6_again 62 = .ok (.ireturn, 1) := by decide +kernel
theorem dX6_again_63 : decode cX6_again 63 = .ok (.iinc 1 1, 3) := by decide +kernel
theorem dX6_again_66 : decode cX6_again 66 = .ok (.goto (-53), 3) := by decide +kernel
theorem dX6_again_69 : decode cX6_again 69 = .ok (.bipush (-4), 2) := by decide +kernel
theorem dX6_again_71 : decode cX6_again 71 = .ok (.ireturn, 1) := by decide +kernel
theorem dX6_order_0 : decode cX6_order 0 = .ok (.iload_n 2, 1) := by decide +kernel
theorem dX6_order_1 : decode cX6_order 1 = .ok (.bipush 10, 2) := by decide +kernel
theorem dX6_order_3 : decode cX6_order 3 = .ok (.bipush 10, 2) := by decide +kernel
theorem dX6_order_5 : decode cX6_order 5 = .ok (.aload_n 0, 1) := by decide +kernel
theorem dX6_order_6 : decode cX6_order 6 = .ok (.getfield 10, 3) := by decide +kernel
theorem dX6_order_9 : decode cX6_order 9 = .ok (.getfield 97, 3) := by decide +kernel
theorem dX6_order_12 : decode cX6_order 12 = .ok (.iadd, 1) := by decide +kernel
theorem dX6_order_13 : decode cX6_order 13 = .ok (.iconst 1, 1) := by decide +kernel
theorem dX6_order_14 : decode cX6_order 14 = .ok (.isub, 1) := by decide +kernel
theorem dX6_order_15 : decode cX6_order 15 = .ok (.invokestatic 69, 3) := by decide +kernel
theorem dX6_order_18 : decode cX6_order 18 = .ok (.istore_n 3, 1) := by decide +kernel
theorem dX6_order_19 : decode cX6_order 19 = .ok (.aload_n 0, 1) := by decide +kernel
theorem dX6_order_20 : decode cX6_order 20 = .ok (.getfield 10, 3) := by decide +kernel
theorem dX6_order_23 : decode cX6_order 23 = .ok (.iload_n 1, 1) := by decide +kernel
theorem dX6_order_24 : decode cX6_order 24 = .ok (.invokevirtual 138, 3) := by decide +kernel
theorem dX6_order_27 : decode cX6_order 27 = .ok (.ifCond .eq 11, 3) := by decide +kernel
theorem dX6_order_30 : decode cX6_order 30 = .ok (.iload_n 2, 1) := by decide +kernel
theorem dX6_order_31 : decode cX6_order 31 = .ok (.ifCond .eq 9, 3) := by decide +kernel
theorem dX6_order_34 : decode cX6_order 34 = .ok (.iload_n 3, 1) := by decide +kernel
theorem dX6_order_35 : decode cX6_order 35 = .ok (.ifCond .ne 5, 3) := by decide +kernel
theorem dX6_order_38 : decode cX6_order 38 = .ok (.iconst (-1), 1) := by decide +kernel
theorem dX6_order_39 : decode cX6_order 39 = .ok (.ireturn, 1) := by decide +kernel
theorem dX6_order_40 : decode cX6_order 40 = .ok (.aload_n 0, 1) := by decide +kernel
theorem dX6_order_41 : decode cX6_order 41 = .ok (.iload_n 1, 1) := by decide +kernel
theorem dX6_order_42 : decode cX6_order 42 = .ok (.invokevirtual 202, 3) := by decide +kernel
theorem dX6_order_45 : decode cX6_order 45 = .ok (.istore 4, 2) := by decide +kernel
theorem dX6_order_47 : decode cX6_order 47 = .ok (.iload_n 3, 1) := by decide +kernel
theorem dX6_order_48 : decode cX6_order 48 = .ok (.ifCond .eq 15, 3) := by decide +kernel
theorem dX6_order_51 : decode cX6_order 51 = .ok (.aload_n 0, 1) := by decide +kernel
theorem dX6_order_52 : decode cX6_order 52 = .ok (.getfield 58, 3) := by decide +kernel
theorem dX6_order_55 : decode cX6_order 55 = .ok (.iload_n 2, 1) := by decide +kernel
theorem dX6_order_56 : decode cX6_order 56 = .ok (.bipush 10, 2) := by decide +kernel
theorem dX6_order_58 : decode cX6_order 58 = .ok (.isub, 1) := by decide +kernel
theorem dX6_order_59 : decode cX6_order 59 = .ok (.iaload, 1) := by decide +kernel
theorem dX6_order_60 : decode cX6_order 60 = .ok (.goto 5, 3) := by decide +kernel
theorem dX6_order_63 : decode cX6_order 63 = .ok (.iload 4, 2) := by decide +kernel
theorem dX6_order_65 : decode cX6_order 65 = .ok (.ireturn, 1) := by decide +kernel
theorem dX6_findBestRow_0 : decode cX6_findBestRow 0 = .ok (.aload_n 0, 1) := by decide +kernel
theorem dX6_findBestRow_1 : decode cX6_findBestRow 1 = .ok (.getfield 16, 3) := by decide +kernel
theorem dX6_findBestRow_4 : decode cX6_findBestRow 4 = .ok (.aload_n 0, 1) := by decide +kernel
theorem dX6_findBestRow_5 : decode cX6_findBestRow 5 = .ok (.getfield 10, 3) := by decide +kernel
theorem dX6_findBestRow_8 : decode cX6_findBestRow 8 = .ok (.invokevirtual 90, 3) := by decide +kernel
theorem dX6_findBestRow_11 : decode cX6_findBestRow 11 = .ok (.aload_n 0, 1) := by decide +kernel
theorem dX6_findBestRow_12 : decode cX6_findBestRow 12 = .ok (.getfield 16, 3) := by decide +kernel
theorem dX6_findBestRow_15 : decode cX6_findBestRow 15 = .ok (.getfield 122, 3) := by decide +kernel
theorem dX6_findBestRow_18 : decode cX6_findBestRow 18 = .ok (.iload_n 1, 1) := by decide +kernel
theorem dX6_findBestRow_19 : decode cX6_findBestRow 19 = .ok (.aaload, 1) := by decide +kernel
theorem dX6_findBestRow_20 : decode cX6_findBestRow 20 = .ok (.astore_n 2, 1) := by decide +kernel
theorem dX6_findBestRow_21 : decode cX6_findBestRow 21 = .ok (.iconst 0, 1) := by decide +kernel
theorem dX6_findBestRow_22 : decode cX6_findBestRow 22 = .ok (.istore_n 3, 1) := by decide +kernel
theorem dX6_findBestRow_23 : decode cX6_findBestRow 23 = .ok (.iload_n 3, 1) := by decide +kernel
theorem dX6_findBestRow_24 : decode cX6_findBestRow 24 = .ok (.bipush 6, 2) := by decide +kernel
theorem dX6_findBestRow_26 : decode cX6_findBestRow 26 = .ok (.if_icmp .ge 16, 3) := by decide +kernel
theorem dX6_findBestRow_29 : decode cX6_findBestRow 29 = .ok (.aload_n 0, 1) := by decide +kernel
theorem dX6_findBestRow_30 : decode cX6_findBestRow 30 = .ok (.getfield 54, 3) := by decide +kernel
theorem dX6_findBestRow_33 : decode cX6_findBestRow 33 = .ok (.iload_n 3, 1) := by decide +kernel
theorem dX6_findBestRow_34 : decode cX6_findBestRow 34 = .ok (.iload_n 3, 1) := by decide +kernel
theorem dX6_findBestRow_35 : decode cX6_findBestRow 35 = .ok (.iastore, 1) := by decide +kernel
theorem dX6_findBestRow_36 : decode cX6_findBestRow 36 = .ok (.iinc 3 1, 3) := by decide +kernel
theorem dX6_findBestRow_39 : decode cX6_findBestRow 39 = .ok (.goto (-16), 3) := by decide +kernel
theorem dX6_findBestRow_42 : decode cX6_findBestRow 42 = .ok (.ldc 117, 2) := by decide +kernel
theorem dX6_findBestRow_44 : decode cX6_findBestRow 44 = .ok (.istore_n 3, 1) := by decide +kernel
theorem dX6_findBestRow_45 : decode cX6_findBestRow 45 = .ok (.iconst 1, 1) := by decide +kernel
theorem dX6_findBestRow_46 : decode cX6_findBestRow 46 = .ok (.istore 4, 2) := by decide +kernel
theorem dX6_findBestRow_48 : decode cX6_findBestRow 48 = .ok (.iconst 0, 1) := by decide +kernel
theorem dX6_findBestRow_49 : decode cX6_findBestRow 49 = .ok (.istore 5, 2) := by decide +kernel
theorem dX6_findBestRow_51 : decode cX6_findBestRow 51 = .ok (.iload 5, 2) := by decide +kernel
theorem dX6_findBestRow_53 : decode cX6_findBestRow 53 = .ok (.sipush 720, 3) := by decide +kernel
theorem dX6_findBestRow_56 : decode cX6_findBestRow 56 = .ok (.if_icmp .ge 100, 3) := by decide +kernel
theorem dX6_findBestRow_59 : decode cX6_findBestRow 59 = .ok (.iload 4, 2) := by decide +kernel
theorem dX6_findBestRow_61 : decode cX6_findBestRow 61 = .ok (.ifCond .eq 95, 3) := by decide +kernel
theorem dX6_findBestRow_64 : decode cX6_findBestRow 64 = .ok (.aload_n 2, 1) := by decide +kernel
theorem dX6_findBestRow_65 : decode cX6_findBestRow 65 = .ok (.aload_n 0, 1) := by decide +kernel
theorem dX6_findBestRow_66 : decode cX6_findBestRow 66 = .ok (.getfield 10, 3) := by decide +kernel
theorem dX6_findBestRow_69 : decode cX6_findBestRow 69 = .ok (.getfield 122, 3) := by decide +kernel
theorem dX6_findBestRow_72 : decode cX6_findBestRow 72 = .ok (.iload_n 1, 1) := by decide +kernel
theorem dX6_findBestRow_73 : decode cX6_findBestRow 73 = .ok (.aaload, 1) := by decide +kernel
theorem dX6_findBestRow_74 : decode cX6_findBestRow 74 = .ok (.invokevirtual 205, 3) := by decide +kernel
theorem dX6_findBestRow_77 : decode cX6_findBestRow 77 = .ok (.aload_n 0, 1) := by decide +kernel
theorem dX6_findBestRow_78 : decode cX6_findBestRow 78 = .ok (.getfield 54, 3) := by decide +kernel
theorem dX6_findBestRow_81 : decode cX6_findBestRow 81 = .ok (.iconst 0, 1) := by decide +kernel
theorem dX6_findBestRow_82 : decode cX6_findBestRow 82 = .ok (.aload_n 2, 1) := by decide +kernel
theorem dX6_findBestRow_83 : decode cX6_findBestRow 83 = .ok (.getfield 145, 3) := by decide +kernel
theorem dX6_findBestRow_86 : decode cX6_findBestRow 86 = .ok (.iconst 0, 1) := by decide +kernel
theorem dX6_findBestRow_87 : decode cX6_findBestRow 87 = .ok (.bipush 6, 2) := by decide +kernel
theorem dX6_findBestRow_89 : decode cX6_findBestRow 89 = .ok (.invokestatic 208, 3) := by decide +kernel
theorem dX6_findBestRow_92 : decode cX6_findBestRow 92 = .ok (.aload_n 0, 1) := by decide +kernel
theorem dX6_findBestRow_93 : decode cX6_findBestRow 93 = .ok (.getfield 16, 3) := by decide +kernel
theorem dX6_findBestRow_96 : decode cX6_findBestRow 96 = .ok (.iload_n 1, 1) := by decide +kernel
theorem dX6_findBestRow_97 : decode cX6_findBestRow 97 = .ok (.aload_n 0, 1) := by decide +kernel
theorem dX6_findBestRow_98 : decode cX6_findBestRow 98 = .ok (.getfield 10, 3) := by decide +kernel
theorem dX6_findBestRow_101 : decode cX6_findBestRow 101 = .ok (.getfield 103, 3) := by decide +kernel
theorem dX6_findBestRow_104 : decode cX6_findBestRow 104 = .ok (.iload_n 3, 1) := by decide +kernel
theorem dX6_findBestRow_105 : decode cX6_findBestRow 105 = .ok (.invokevirtual 191, 3) := by decide +kernel
theorem dX6_findBestRow_108 : decode cX6_findBestRow 108 = .ok (.istore 6, 2) := by decide +kernel
theorem dX6_findBestRow_110 : decode cX6_findBestRow 110 = .ok (.iload 6, 2) := by decide +kernel
theorem dX6_findBestRow_112 : decode cX6_findBestRow 112 = .ok (.iload_n 3, 1) := by decide +kernel
theorem dX6_findBestRow_113 : decode cX6_findBestRow 113 = .ok (.if_icmp .ge 21, 3) := by decide +kernel
theorem dX6_findBestRow_116 : decode cX6_findBestRow 116 = .ok (.iload 6, 2) := by decide +kernel
theorem dX6_findBestRow_118 : decode cX6_findBestRow 118 = .ok (.istore_n 3, 1) := by decide +kernel
theorem dX6_findBestRow_119 : decode cX6_findBestRow 119 = .ok (.aload_n 0, 1) := by decide +kernel
theorem dX6_findBestRow_120 : decode cX6_findBestRow 120 = .ok (.getfield 54, 3) := by decide +kernel
theorem dX6_findBestRow_123 : decode cX6_findBestRow 123 = .ok (.iconst 0, 1) := by decide +kernel
theorem dX6_findBestRow_124 : decode cX6_findBestRow 124 = .ok (.aload_n 0, 1) := by decide +kernel
theorem dX6_findBestRow_125 : decode cX6_findBestRow 125 = .ok (.getfield 58, 3) := by decide +kernel
theorem dX6_findBestRow_128 : decode cX6_findBestRow 128 = .ok (.iconst 0, 1) := by decide +kernel
theorem dX6_findBestRow_129 : decode cX6_findBestRow 129 = .ok (.bipush 6, 2) := by decide +kernel
theorem dX6_findBestRow_131 : decode cX6_findBestRow 131 = .ok (.invokestatic 208, 3) := by decide +kernel
theorem dX6_findBestRow_134 : decode cX6_findBestRow 134 = .ok (.aload_n 0, 1) := by decide +kernel
theorem dX6_findBestRow_135 : decode cX6_findBestRow 135 = .ok (.getfield 54, 3) := by decide +kernel
theorem dX6_findBestRow_138 : decode cX6_findBestRow 138 = .ok (.aload_n 0, 1) := by decide +kernel
theorem dX6_findBestRow_139 : decode cX6_findBestRow 139 = .ok (.getfield 10, 3) := by decide +kernel
theorem dX6_findBestRow_142 : decode cX6_findBestRow 142 = .ok (.getfield 97, 3) := by decide +kernel
theorem dX6_findBestRow_145 : decode cX6_findBestRow 145 = .ok (.invokestatic 214, 3) := by decide +kernel
theorem dX6_findBestRow_148 : decode cX6_findBestRow 148 = .ok (.istore 4, 2) := by decide +kernel
theorem dX6_findBestRow_150 : decode cX6_findBestRow 150 = .ok (.iinc 5 1, 3) := by decide +kernel
theorem dX6_findBestRow_153 : decode cX6_findBestRow 153 = .ok (.goto (-102), 3) := by decide +kernel
theorem dX6_findBestRow_156 : decode cX6_findBestRow 156 = .ok (.iload_n 3, 1) := by decide +kernel
theorem dX6_findBestRow_157 : decode cX6_findBestRow 157 = .ok (.ireturn, 1) := by decide +kernel
theorem dX6_nextRow_0 : decode cX6_nextRow 0 = .ok (.iload_n 1, 1) := by decide +kernel
theorem dX6_nextRow_1 : decode cX6_nextRow 1 = .ok (.iconst 2, 1) := by decide +kernel
theorem dX6_nextRow_2 : decode cX6_nextRow 2 = .ok (.isub, 1) := by decide +kernel
theorem dX6_nextRow_3 : decode cX6_nextRow 3 = .ok (.istore_n 2, 1) := by decide +kernel
theorem dX6_nextRow_4 : decode cX6_nextRow 4 = .ok (.iload_n 2, 1) := by decide +kernel
theorem dX6_nextRow_5 : decode cX6_nextRow 5 = .ok (.ifCond .lt 20, 3) := by decide +kernel
theorem dX6_nextRow_8 : decode cX6_nextRow 8 = .ok (.aload_n 0, 1) := by decide +kernel
theorem dX6_nextRow_9 : decode cX6_nextRow 9 = .ok (.iload_n 2, 1) := by decide +kernel
theorem dX6_nextRow_10 : decode cX6_nextRow 10 = .ok (.iaload, 1) := by decide +kernel
theorem dX6_nextRow_11 : decode cX6_nextRow 11 = .ok (.aload_n 0, 1) := by decide +kernel
theorem dX6_nextRow_12 : decode cX6_nextRow 12 = .ok (.iload_n 2, 1) := by decide +kernel
theorem dX6_nextRow_13 : decode cX6_nextRow 13 = .ok (.iconst 1, 1) := by decide +kernel
theorem dX6_nextRow_14 : decode cX6_nextRow 14 = .ok (.iadd, 1) := by decide +kernel
theorem dX6_nextRow_15 : decode cX6_nextRow 15 = .ok (.iaload, 1) := by decide +kernel
theorem dX6_nextRow_16 : decode cX6_nextRow 16 = .ok (.if_icmp .le 9, 3) := by decide +kernel
theorem dX6_nextRow_19 : decode cX6_nextRow 19 = .ok (.iinc 2 (-1), 3) := by decide +kernel
theorem dX6_nextRow_22 : decode cX6_nextRow 22 = .ok (.goto (-18), 3) := by decide +kernel
theorem dX6_nextRow_25 : decode cX6_nextRow 25 = .ok (.iload_n 2, 1) := by decide +kernel
theorem dX6_nextRow_26 : decode cX6_nextRow 26 = .ok (.ifCond .ge 5, 3) := by decide +kernel
theorem dX6_nextRow_29 : decode cX6_nextRow 29 = .ok (.iconst 0, 1) := by decide +kernel
theorem dX6_nextRow_30 : decode cX6_nextRow 30 = .ok (.ireturn, 1) := by decide +kernel
theorem dX6_nextRow_31 : decode cX6_nextRow 31 = .ok (.iload_n 1, 1) := by decide +kernel
theorem dX6_nextRow_32 : decode cX6_nextRow 32 = .ok (.iconst 1, 1) := by decide +kernel
theorem dX6_nextRow_33 : decode cX6_nextRow 33 = .ok (.isub, 1) := by decide +kernel
theorem dX6_nextRow_34 : decode cX6_nextRow 34 = .ok (.istore_n 3, 1) := by decide +kernel
theorem dX6_nextRow_35 : decode cX6_nextRow 35 = .ok (.iload_n 3, 1) := by decide +kernel
theorem dX6_nextRow_36 : decode cX6_nextRow 36 = .ok (.iload_n 2, 1) := by decide +kernel
theorem dX6_nextRow_37 : decode cX6_nextRow 37 = .ok (.iconst 1, 1) := by decide +kernel
theorem dX6_nextRow_38 : decode cX6_nextRow 38 = .ok (.iadd, 1) := by decide +kernel
theorem dX6_nextRow_39 : decode cX6_nextRow 39 = .ok (.if_icmp .le 18, 3) := by decide +kernel
theorem dX6_nextRow_42 : decode cX6_nextRow 42 = .ok (.aload_n 0, 1) := by decide +kernel
theorem dX6_nextRow_43 : decode cX6_nextRow 43 = .ok (.iload_n 3, 1) := by decide +kernel
theorem dX6_nextRow_44 : decode cX6_nextRow 44 = .ok (.iaload, 1) := by decide +kernel
theorem dX6_nextRow_45 : decode cX6_nextRow 45 = .ok (.aload_n 0, 1) := by decide +kernel
theorem dX6_nextRow_46 : decode cX6_nextRow 46 = .ok (.iload_n 2, 1) := by decide +kernel
theorem dX6_nextRow_47 : decode cX6_nextRow 47 = .ok (.iaload, 1) := by decide +kernel
theorem dX6_nextRow_48 : decode cX6_nextRow 48 = .ok (.if_icmp .ge 9, 3) := by decide +kernel
theorem dX6_nextRow_51 : decode cX6_nextRow 51 = .ok (.iinc 3 (-1), 3) := by decide +kernel
theorem dX6_nextRow_54 : decode cX6_nextRow 54 = .ok (.goto (-19), 3) := by decide +kernel
theorem dX6_nextRow_57 : decode cX6_nextRow 57 = .ok (.aload_n 0, 1) := by decide +kernel
theorem dX6_nextRow_58 : decode cX6_nextRow 58 = .ok (.iload_n 2, 1) := by decide +kernel
theorem dX6_nextRow_59 : decode cX6_nextRow 59 = .ok (.iload_n 3, 1) := by decide +kernel
theorem dX6_nextRow_60 : decode cX6_nextRow 60 = .ok (.invokestatic 218, 3) := by decide +kernel
theorem dX6_nextRow_63 : decode cX6_nextRow 63 = .ok (.iload_n 2, 1) := by decide +kernel
theorem dX6_nextRow_64 : decode cX6_nextRow 64 = .ok (.iconst 1, 1) := by decide +kernel
theorem dX6_nextRow_65 : decode cX6_nextRow 65 = .ok (.iadd, 1) := by decide +kernel
theorem dX6_nextRow_66 : decode cX6_nextRow 66 = .ok (.istore 4, 2) := by decide +kernel
theorem dX6_nextRow_68 : decode cX6_nextRow 68 = .ok (.iload_n 1, 1) := by decide +kernel
theorem dX6_nextRow_69 : decode cX6_nextRow 69 = .ok (.iconst 1, 1) := by decide +kernel
theorem dX6_nextRow_70 : decode cX6_nextRow 70 = .ok (.isub, 1) := by decide +kernel
theorem dX6_nextRow_71 : decode cX6_nextRow 71 = .ok (.istore 5, 2) := by decide +kernel
theorem dX6_nextRow_73 : decode cX6_nextRow 73 = .ok (.iload 4, 2) := by decide +kernel
theorem dX6_nextRow_75 : decode cX6_nextRow 75 = .ok (.iload 5, 2) := by decide +kernel
theorem dX6_nextRow_77 : decode cX6_nextRow 77 = .ok (.if_icmp .ge 20, 3) := by decide +kernel
theorem dX6_nextRow_80 : decode cX6_nextRow 80 = .ok (.aload_n 0, 1) := by decide +kernel
theorem dX6_nextRow_81 : decode cX6_nextRow 81 = .ok (.iload 4, 2) := by decide +kernel
theorem dX6_nextRow_83 : decode cX6_nextRow 83 = .ok (.iload 5, 2) := by decide +kernel
theorem dX6_nextRow_85 : decode cX6_nextRow 85 = .ok (.invokestatic 218, 3) := by decide +kernel
theorem dX6_nextRow_88 : decode cX6_nextRow 88 = .ok (.iinc 4 1, 3) := by decide +kernel
theorem dX6_nextRow_91 : decode cX6_nextRow 91 = .ok (.iinc 5 (-1), 3) := by decide +kernel
theorem dX6_nextRow_94 : decode cX6_nextRow 94 = .ok (.goto (-21), 3) := by decide +kernel
theorem dX6_nextRow_97 : decode cX6_nextRow 97 = .ok (.iconst 1, 1) := by decide +kernel
theorem dX6_nextRow_98 : decode cX6_nextRow 98 = .ok (.ireturn, 1) := by decide +kernel
theorem dX6_exchange_0 : decode cX6_exchange 0 = .ok (.aload_n 0, 1) := by decide +kernel
theorem dX6_exchange_1 : decode cX6_exchange 1 = .ok (.iload_n 1, 1) := by decide +kernel
theorem dX6_exchange_2 : decode cX6_exchange 2 = .ok (.iaload, 1) := by decide +kernel
theorem dX6_exchange_3 : decode cX6_exchange 3 = .ok (.istore_n 3, 1) := by decide +kernel
theorem dX6_exchange_4 : decode cX6_exchange 4 = .ok (.aload_n 0, 1) := by decide +kernel
theorem dX6_exchange_5 : decode cX6_exchange 5 = .ok (.iload_n 1, 1) := by decide +kernel
theorem dX6_exchange_6 : decode cX6_exchange 6 = .ok (.aload_n 0, 1) := by decide +kernel
theorem dX6_exchange_7 : decode cX6_exchange 7 = .ok (.iload_n 2, 1) := by decide +kernel
theorem dX6_exchange_8 : decode cX6_exchange 8 = .ok (.iaload, 1) := by decide +kernel
theorem dX6_exchange_9 : decode cX6_exchange 9 = .ok (.iastore, 1) := by decide +kernel
theorem dX6_exchange_10 : decode cX6_exchange 10 = .ok (.aload_n 0, 1) := by decide +kernel
theorem dX6_exchange_11 : decode cX6_exchange 11 = .ok (.iload_n 2, 1) := by decide +kernel
theorem dX6_exchange_12 : decode cX6_exchange 12 = .ok (.iload_n 3, 1) := by decide +kernel
theorem dX6_exchange_13 : decode cX6_exchange 13 = .ok (.iastore, 1) := by decide +kernel
theorem dX6_exchange_14 : decode cX6_exchange 14 = .ok (.return_, 1) := by decide +kernel
theorem dX6_kind_0 : decode cX6_kind 0 = .ok (.aload_n 0, 1) := by decide +kernel
theorem dX6_kind_1 : decode cX6_kind 1 = .ok (.getfield 10, 3) := by decide +kernel
theorem dX6_kind_4 : decode cX6_kind 4 = .ok (.iload_n 1, 1) := by decide +kernel
theorem dX6_kind_5 : decode cX6_kind 5 = .ok (.invokevirtual 138, 3) := by decide +kernel
theorem dX6_kind_8 : decode cX6_kind 8 = .ok (.ifCond .eq 23, 3) := by decide +kernel
theorem dX6_kind_11 : decode cX6_kind 11 = .ok (.iload_n 2, 1) := by decide +kernel
theorem dX6_kind_12 : decode cX6_kind 12 = .ok (.iconst 0, 1) := by decide +kernel
theorem dX6_kind_13 : decode cX6_kind 13 = .ok (.sipush 200, 3) := by decide +kernel
theorem dX6_kind_16 : decode cX6_kind 16 = .ok (.invokestatic 69, 3) := by decide +kernel
theorem dX6_kind_19 : decode cX6_kind 19 = .ok (.ifCond .eq 12, 3) := by decide +kernel
theorem dX6_kind_22 : decode cX6_kind 22 = .ok (.iload_n 3, 1) := by decide +kernel
theorem dX6_kind_23 : decode cX6_kind 23 = .ok (.iconst 0, 1) := by decide +kernel
theorem dX6_kind_24 : decode cX6_kind 24 = .ok (.iconst 1, 1) := by decide +kernel
theorem dX6_kind_25 : decode cX6_kind 25 = .ok (.invokestatic 69, 3) := by decide +kernel
theorem dX6_kind_28 : decode cX6_kind 28 = .ok (.ifCond .ne 5, 3) := by decide +kernel
theorem dX6_kind_31 : decode cX6_kind 31 = .ok (.iconst (-1), 1) := by decide +kernel
theorem dX6_kind_32 : decode cX6_kind 32 = .ok (.ireturn, 1) := by decide +kernel
theorem dX6_kind_33 : decode cX6_kind 33 = .ok (.aload_n 0, 1) := by decide +kernel
theorem dX6_kind_34 : decode cX6_kind 34 = .ok (.getfield 16, 3) := by decide +kernel
theorem dX6_kind_37 : decode cX6_kind 37 = .ok (.aload_n 0, 1) := by decide +kernel
theorem dX6_kind_38 : decode cX6_kind 38 = .ok (.getfield 10, 3) := by decide +kernel
theorem dX6_kind_41 : decode cX6_kind 41 = .ok (.invokevirtual 90, 3) := by decide +kernel
theorem dX6_kind_44 : decode cX6_kind 44 = .ok (.aload_n 0, 1) := by decide +kernel
theorem dX6_kind_45 : decode cX6_kind 45 = .ok (.getfield 50, 3) := by decide +kernel
theorem dX6_kind_48 : decode cX6_kind 48 = .ok (.ldc 117, 2) := by decide +kernel
theorem dX6_kind_50 : decode cX6_kind 50 = .ok (.invokevirtual 118, 3) := by decide +kernel
theorem dX6_kind_53 : decode cX6_kind 53 = .ok (.iconst 0, 1) := by decide +kernel
theorem dX6_kind_54 : decode cX6_kind 54 = .ok (.istore 4, 2) := by decide +kernel
theorem dX6_kind_56 : decode cX6_kind 56 = .ok (.iload 4, 2) := by decide +kernel
theorem dX6_kind_58 : decode cX6_kind 58 = .ok (.iconst 3, 1) := by decide +kernel
theorem dX6_kind_59 : decode cX6_kind 59 = .ok (.if_icmp .gt 69, 3) := by decide +kernel
theorem dX6_kind_62 : decode cX6_kind 62 = .ok (.aload_n 0, 1) := by decide +kernel
theorem dX6_kind_63 : decode cX6_kind 63 = .ok (.getfield 16, 3) := by decide +kernel
theorem dX6_kind_66 : decode cX6_kind 66 = .ok (.getfield 122, 3) := by decide +kernel
theorem dX6_kind_69 : decode cX6_kind 69 = .ok (.iload_n 1, 1) := by decide +kernel
theorem dX6_kind_70 : decode cX6_kind 70 = .ok (.aaload, 1) := by decide +kernel
theorem dX6_kind_71 : decode cX6_kind 71 = .ok (.aload_n 0, 1) := by decide +kernel
theorem dX6_kind_72 : decode cX6_kind 72 = .ok (.getfield 10, 3) := by decide +kernel
theorem dX6_kind_75 : decode cX6_kind 75 = .ok (.getfield 122, 3) := by decide +kernel
theorem dX6_kind_78 : decode cX6_kind 78 = .ok (.iload_n 1, 1) := by decide +kernel
theorem dX6_kind_79 : decode cX6_kind 79 = .ok (.aaload, 1) := by decide +kernel
theorem dX6_kind_80 : decode cX6_kind 80 = .ok (.invokevirtual 205, 3) := by decide +kernel
theorem dX6_kind_83 : decode cX6_kind 83 = .ok (.aload_n 0, 1) := by decide +kernel
theorem dX6_kind_84 : decode cX6_kind 84 = .ok (.getfield 16, 3) := by decide +kernel
theorem dX6_kind_87 : decode cX6_kind 87 = .ok (.getfield 122, 3) := by decide +kernel
theorem dX6_kind_90 : decode cX6_kind 90 = .ok (.iload_n 1, 1) := by decide +kernel
theorem dX6_kind_91 : decode cX6_kind 91 = .ok (.aaload, 1) := by decide +kernel
theorem dX6_kind_92 : decode cX6_kind 92 = .ok (.iload 4, 2) := by decide +kernel
theorem dX6_kind_94 : decode cX6_kind 94 = .ok (.putfield 142, 3) := by decide +kernel
theorem dX6_kind_97 : decode cX6_kind 97 = .ok (.aload_n 0, 1) := by decide +kernel
theorem dX6_kind_98 : decode cX6_kind 98 = .ok (.getfield 50, 3) := by decide +kernel
theorem dX6_kind_101 : decode cX6_kind 101 = .ok (.iload 4, 2) := by decide +kernel
theorem dX6_kind_103 : decode cX6_kind 103 = .ok (.aload_n 0, 1) := by decide +kernel
theorem dX6_kind_104 : decode cX6_kind 104 = .ok (.getfield 16, 3) := by decide +kernel
theorem dX6_kind_107 : decode cX6_kind 107 = .ok (.iload_n 1, 1) := by decide +kernel
theorem dX6_kind_108 : decode cX6_kind 108 = .ok (.iload_n 2, 1) := by decide +kernel
theorem dX6_kind_109 : decode cX6_kind 109 = .ok (.aload_n 0, 1) := by decide +kernel
theorem dX6_kind_110 : decode cX6_kind 110 = .ok (.getfield 50, 3) := by decide +kernel
theorem dX6_kind_113 : decode cX6_kind 113 = .ok (.getfield 222, 3) := by decide +kernel
theorem dX6_kind_116 : decode cX6_kind 116 = .ok (.invokevirtual 191, 3) := by decide +kernel
theorem dX6_kind_119 : decode cX6_kind 119 = .ok (.invokevirtual 131, 3) := by decide +kernel
theorem dX6_kind_122 : decode cX6_kind 122 = .ok (.iinc 4 1, 3) := by decide +kernel
theorem dX6_kind_125 : decode cX6_kind 125 = .ok (.goto (-69), 3) := by decide +kernel
theorem dX6_kind_128 : decode cX6_kind 128 = .ok (.aload_n 0, 1) := by decide +kernel
theorem dX6_kind_129 : decode cX6_kind 129 = .ok (.getfield 50, 3) := by decide +kernel
theorem dX6_kind_132 : decode cX6_kind 132 = .ok (.iload_n 3, 1) := by decide +kernel
theorem dX6_kind_133 : decode cX6_kind 133 = .ok (.invokevirtual 225, 3) := by decide +kernel
theorem dX6_kind_136 : decode cX6_kind 136 = .ok (.ireturn, 1) := by decide +kernel
theorem dX6_first_0 : decode cX6_first 0 = .ok (.aload_n 0, 1) := by decide +kernel
theorem dX6_first_1 : decode cX6_first 1 = .ok (.getfield 10, 3) := by decide +kernel
theorem dX6_first_4 : decode cX6_first 4 = .ok (.iload_n 1, 1) := by decide +kernel
theorem dX6_first_5 : decode cX6_first 5 = .ok (.invokevirtual 138, 3) := by decide +kernel
theorem dX6_first_8 : decode cX6_first 8 = .ok (.ifCond .eq 23, 3) := by decide +kernel
theorem dX6_first_11 : decode cX6_first 11 = .ok (.iload_n 2, 1) := by decide +kernel
theorem dX6_first_12 : decode cX6_first 12 = .ok (.iconst 0, 1) := by decide +kernel
theorem dX6_first_13 : decode cX6_first 13 = .ok (.sipush 200, 3) := by decide +kernel
theorem dX6_first_16 : decode cX6_first 16 = .ok (.invokestatic 69, 3) := by decide +kernel
theorem dX6_first_19 : decode cX6_first 19 = .ok (.ifCond .eq 12, 3) := by decide +kernel
theorem dX6_first_22 : decode cX6_first 22 = .ok (.iload_n 3, 1) := by decide +kernel
theorem dX6_first_23 : decode cX6_first 23 = .ok (.iconst 0, 1) := by decide +kernel
theorem dX6_first_24 : decode cX6_first 24 = .ok (.iconst 1, 1) := by decide +kernel
theorem dX6_first_25 : decode cX6_first 25 = .ok (.invokestatic 69, 3) := by decide +kernel
theorem dX6_first_28 : decode cX6_first 28 = .ok (.ifCond .ne 5, 3) := by decide +kernel
theorem dX6_first_31 : decode cX6_first 31 = .ok (.iconst (-1), 1) := by decide +kernel
theorem dX6_first_32 : decode cX6_first 32 = .ok (.ireturn, 1) := by decide +kernel
theorem dX6_first_33 : decode cX6_first 33 = .ok (.aload_n 0, 1) := by decide +kernel
theorem dX6_first_34 : decode cX6_first 34 = .ok (.getfield 16, 3) := by decide +kernel
theorem dX6_first_37 : decode cX6_first 37 = .ok (.aload_n 0, 1) := by decide +kernel
theorem dX6_first_38 : decode cX6_first 38 = .ok (.getfield 10, 3) := by decide +kernel
theorem dX6_first_41 : decode cX6_first 41 = .ok (.invokevirtual 90, 3) := by decide +kernel
theorem dX6_first_44 : decode cX6_first 44 = .ok (.aload_n 0, 1) := by decide +kernel
theorem dX6_first_45 : decode cX6_first 45 = .ok (.getfield 16, 3) := by decide +kernel
theorem dX6_first_48 : decode cX6_first 48 = .ok (.getfield 122, 3) := by decide +kernel
theorem dX6_first_51 : decode cX6_first 51 = .ok (.iload_n 1, 1) := by decide +kernel
theorem dX6_first_52 : decode cX6_first 52 = .ok (.aaload, 1) := by decide +kernel
theorem dX6_first_53 : decode cX6_first 53 = .ok (.astore 4, 2) := by decide +kernel
theorem dX6_first_55 : decode cX6_first 55 = .ok (.aload_n 0, 1) := by decide +kernel
theorem dX6_first_56 : decode cX6_first 56 = .ok (.getfield 50, 3) := by decide +kernel
theorem dX6_first_59 : decode cX6_first 59 = .ok (.ldc 117, 2) := by decide +kernel
theorem dX6_first_61 : decode cX6_first 61 = .ok (.invokevirtual 118, 3) := by decide +kernel
theorem dX6_first_64 : decode cX6_first 64 = .ok (.iconst 0, 1) := by decide +kernel
theorem dX6_first_65 : decode cX6_first 65 = .ok (.istore 5, 2) := by decide +kernel
theorem dX6_first_67 : decode cX6_first 67 = .ok (.iload 5, 2) := by decide +kernel
theorem dX6_first_69 : decode cX6_first 69 = .ok (.aload_n 0, 1) := by decide +kernel
theorem dX6_first_70 : decode cX6_first 70 = .ok (.getfield 10, 3) := by decide +kernel
theorem dX6_first_73 : decode cX6_first 73 = .ok (.getfield 97, 3) := by decide +kernel
theorem dX6_first_76 : decode cX6_first 76 = .ok (.if_icmp .ge 61, 3) := by decide +kernel
theorem dX6_first_79 : decode cX6_first 79 = .ok (.aload 4, 2) := by decide +kernel
theorem dX6_first_81 : decode cX6_first 81 = .ok (.aload_n 0, 1) := by decide +kernel
theorem dX6_first_82 : decode cX6_first 82 = .ok (.getfield 10, 3) := by decide +kernel
theorem dX6_first_85 : decode cX6_first 85 = .ok (.getfield 122, 3) := by decide +kernel
theorem dX6_first_88 : decode cX6_first 88 = .ok (.iload_n 1, 1) := by decide +kernel
theorem dX6_first_89 : decode cX6_first 89 = .ok (.aaload, 1) := by decide +kernel
theorem dX6_first_90 : decode cX6_first 90 = .ok (.invokevirtual 205, 3) := by decide +kernel
theorem dX6_first_93 : decode cX6_first 93 = .ok (.aload 4, 2) := by decide +kernel
theorem dX6_first_95 : decode cX6_first 95 = .ok (.aload 4, 2) := by decide +kernel
theorem dX6_first_97 : decode cX6_first 97 = .ok (.iload 5, 2) := by decide +kernel
theorem dX6_first_99 : decode cX6_first 99 = .ok (.invokevirtual 154, 3) := by decide +kernel
theorem dX6_first_102 : decode cX6_first 102 = .ok (.iconst 0, 1) := by decide +kernel
theorem dX6_first_103 : decode cX6_first 103 = .ok (.invokevirtual 166, 3) := by decide +kernel
theorem dX6_first_106 : decode cX6_first 106 = .ok (.aload_n 0, 1) := by decide +kernel
theorem dX6_first_107 : decode cX6_first 107 = .ok (.getfield 50, 3) := by decide +kernel
theorem dX6_first_110 : decode cX6_first 110 = .ok (.iload 5, 2) := by decide +kernel
theorem dX6_first_112 : decode cX6_first 112 = .ok (.aload_n 0, 1) := by decide +kernel
theorem dX6_first_113 : decode cX6_first 113 = .ok (.getfield 16, 3) := by decide +kernel
theorem dX6_first_116 : decode cX6_first 116 = .ok (.iload_n 1, 1) := by decide +kernel
theorem dX6_first_117 : decode cX6_first 117 = .ok (.iload_n 2, 1) := by decide +kernel
theorem dX6_first_118 : decode cX6_first 118 = .ok (.aload_n 0, 1) := by decide +kernel
theorem dX6_first_119 : decode cX6_first 119 = .ok (.getfield 50, 3) := by decide +kernel
theorem dX6_first_122 : decode cX6_first 122 = .ok (.getfield 222, 3) := by decide +kernel
theorem dX6_first_125 : decode cX6_first 125 = .ok (.invokevirtual 191, 3) := by decide +kernel
theorem dX6_first_128 : decode cX6_first 128 = .ok (.invokevirtual 131, 3) := by decide +kernel
theorem dX6_first_131 : decode cX6_first 131 = .ok (.iinc 5 1, 3) := by decide +kernel
theorem dX6_first_134 : decode cX6_first 134 = .ok (.goto (-67), 3) := by decide +kernel
theorem dX6_first_137 : decode cX6_first 137 = .ok (.aload_n 0, 1) := by decide +kernel
theorem dX6_first_138 : decode cX6_first 138 = .ok (.getfield 50, 3) := by decide +kernel
theorem dX6_first_141 : decode cX6_first 141 = .ok (.iload_n 3, 1) := by decide +kernel
theorem dX6_first_142 : decode cX6_first 142 = .ok (.invokevirtual 225, 3) := by decide +kernel
theorem dX6_first_145 : decode cX6_first 145 = .ok (.ireturn, 1) := by decide +kernel
theorem dX6_swap_0 : decode cX6_swap 0 = .ok (.iload_n 1, 1) := by decide +kernel
theorem dX6_swap_1 : decode cX6_swap 1 = .ok (.iconst 0, 1) := by decide +kernel
theorem dX6_swap_2 : decode cX6_swap 2 = .ok (.sipush 200, 3) := by decide +kernel
theorem dX6_swap_5 : decode cX6_swap 5 = .ok (.invokestatic 69, 3) := by decide +kernel
theorem dX6_swap_8 : decode cX6_swap 8 = .ok (.ifCond .eq 12, 3) := by decide +kernel
theorem dX6_swap_11 : decode cX6_swap 11 = .ok (.iload_n 2, 1) := by decide +kernel
theorem dX6_swap_12 : decode cX6_swap 12 = .ok (.iconst 0, 1) := by decide +kernel
theorem dX6_swap_13 : decode cX6_swap 13 = .ok (.iconst 1, 1) := by decide +kernel
theorem dX6_swap_14 : decode cX6_swap 14 = .ok (.invokestatic 69, 3) := by decide +kernel
theorem dX6_swap_17 : decode cX6_swap 17 = .ok (.ifCond .ne 5, 3) := by decide +kernel
theorem dX6_swap_20 : decode cX6_swap 20 = .ok (.iconst (-1), 1) := by decide +kernel
theorem dX6_swap_21 : decode cX6_swap 21 = .ok (.ireturn, 1) := by decide +kernel
theorem dX6_swap_22 : decode cX6_swap 22 = .ok (.aload_n 0, 1) := by decide +kernel
theorem dX6_swap_23 : decode cX6_swap 23 = .ok (.iload_n 1, 1) := by decide +kernel
theorem dX6_swap_24 : decode cX6_swap 24 = .ok (.invokevirtual 228, 3) := by decide +kernel
theorem dX6_swap_27 : decode cX6_swap 27 = .ok (.iconst 0, 1) := by decide +kernel
theorem dX6_swap_28 : decode cX6_swap 28 = .ok (.istore_n 3, 1) := by decide +kernel
theorem dX6_swap_29 : decode cX6_swap 29 = .ok (.iload_n 3, 1) := by decide +kernel
theorem dX6_swap_30 : decode cX6_swap 30 = .ok (.aload_n 0, 1) := by decide +kernel
theorem dX6_swap_31 : decode cX6_swap 31 = .ok (.getfield 10, 3) := by decide +kernel
theorem dX6_swap_34 : decode cX6_swap 34 = .ok (.getfield 103, 3) := by decide +kernel
theorem dX6_swap_37 : decode cX6_swap 37 = .ok (.if_icmp .ge 107, 3) := by decide +kernel
theorem dX6_swap_40 : decode cX6_swap 40 = .ok (.iload_n 3, 1) := by decide +kernel
theorem dX6_swap_41 : decode cX6_swap 41 = .ok (.iconst 1, 1) := by decide +kernel
theorem dX6_swap_42 : decode cX6_swap 42 = .ok (.iadd, 1) := by decide +kernel
theorem dX6_swap_43 : decode cX6_swap 43 = .ok (.istore 4, 2) := by decide +kernel
theorem dX6_swap_45 : decode cX6_swap 45 = .ok (.iload 4, 2) := by decide +kernel
theorem dX6_swap_47 : decode cX6_swap 47 = .ok (.aload_n 0, 1) := by decide +kernel
theorem dX6_swap_48 : decode cX6_swap 48 = .ok (.getfield 10, 3) := by decide +kernel
theorem dX6_swap_51 : decode cX6_swap 51 = .ok (.getfield 103, 3) := by decide +kernel
theorem dX6_swap_54 : decode cX6_swap 54 = .ok (.if_icmp .ge 84, 3) := by decide +kernel
theorem dX6_swap_57 : decode cX6_swap 57 = .ok (.aload_n 0, 1) := by decide +kernel
theorem dX6_swap_58 : decode cX6_swap 58 = .ok (.getfield 10, 3) := by decide +kernel
theorem dX6_swap_61 : decode cX6_swap 61 = .ok (.getfield 160, 3) := by decide +kernel
theorem dX6_swap_64 : decode cX6_swap 64 = .ok (.iload_n 3, 1) := by decide +kernel
theorem dX6_swap_65 : decode cX6_swap 65 = .ok (.iaload, 1) := by decide +kernel
theorem dX6_swap_66 : decode cX6_swap 66 = .ok (.aload_n 0, 1) := by decide +kernel
theorem dX6_swap_67 : decode cX6_swap 67 = .ok (.getfield 10, 3) := by decide +kernel
theorem dX6_swap_70 : decode cX6_swap 70 = .ok (.getfield 160, 3) := by decide +kernel
theorem dX6_swap_73 : decode cX6_swap 73 = .ok (.iload 4, 2) := by decide +kernel
theorem dX6_swap_75 : decode cX6_swap 75 = .ok (.iaload, 1) := by decide +kernel
theorem dX6_swap_76 : decode cX6_swap 76 = .ok (.if_icmp .eq 56, 3) := by decide +kernel
theorem dX6_swap_79 : decode cX6_swap 79 = .ok (.aload_n 0, 1) := by decide +kernel
theorem dX6_swap_80 : decode cX6_swap 80 = .ok (.getfield 16, 3) := by decide +kernel
theorem dX6_swap_83 : decode cX6_swap 83 = .ok (.aload_n 0, 1) := by decide +kernel
theorem dX6_swap_84 : decode cX6_swap 84 = .ok (.getfield 10, 3) := by decide +kernel
theorem dX6_swap_87 : decode cX6_swap 87 = .ok (.invokevirtual 90, 3) := by decide +kernel
theorem dX6_swap_90 : decode cX6_swap 90 = .ok (.aload_n 0, 1) := by decide +kernel
theorem dX6_swap_91 : decode cX6_swap 91 = .ok (.getfield 16, 3) := by decide +kernel
theorem dX6_swap_94 : decode cX6_swap 94 = .ok (.getfield 160, 3) := by decide +kernel
theorem dX6_swap_97 : decode cX6_swap 97 = .ok (.iload_n 3, 1) := by decide +kernel
theorem dX6_swap_98 : decode cX6_swap 98 = .ok (.iload 4, 2) := by decide +kernel
theorem dX6_swap_100 : decode cX6_swap 100 = .ok (.invokestatic 218, 3) := by decide +kernel
theorem dX6_swap_103 : decode cX6_swap 103 = .ok (.aload_n 0, 1) := by decide +kernel
theorem dX6_swap_104 : decode cX6_swap 104 = .ok (.getfield 50, 3) := by decide +kernel
theorem dX6_swap_107 : decode cX6_swap 107 = .ok (.bipush 100, 2) := by decide +kernel
theorem dX6_swap_109 : decode cX6_swap 109 = .ok (.iload_n 3, 1) := by decide +kernel
theorem dX6_swap_110 : decode cX6_swap 110 = .ok (.imul, 1) := by decide +kernel
theorem dX6_swap_111 : decode cX6_swap 111 = .ok (.iload 4, 2) := by decide +kernel
theorem dX6_swap_113 : decode cX6_swap 113 = .ok (.iadd, 1) := by decide +kernel
theorem dX6_swap_114 : decode cX6_swap 114 = .ok (.aload_n 0, 1) := by decide +kernel
theorem dX6_swap_115 : decode cX6_swap 115 = .ok (.getfield 16, 3) := by decide +kernel
theorem dX6_swap_118 : decode cX6_swap 118 = .ok (.iload_n 1, 1) := by decide +kernel
theorem dX6_swap_119 : decode cX6_swap 119 = .ok (.aload_n 0, 1) := by decide +kernel
theorem dX6_swap_120 : decode cX6_swap 120 = .ok (.getfield 50, 3) := by decide +kernel
theorem dX6_swap_123 : decode cX6_swap 123 = .ok (.getfield 222, 3) := by decide +kernel
theorem dX6_swap_126 : decode cX6_swap 126 = .ok (.invokevirtual 178, 3) := by decide +kernel
theorem dX6_swap_129 : decode cX6_swap 129 = .ok (.invokevirtual 131, 3) := by decide +kernel
theorem dX6_swap_132 : decode cX6_swap 132 = .ok (.iinc 4 1, 3) := by decide +kernel
theorem dX6_swap_135 : decode cX6_swap 135 = .ok (.goto (-90), 3) := by decide +kernel
theorem dX6_swap_138 : decode cX6_swap 138 = .ok (.iinc 3 1, 3) := by decide +kernel
theorem dX6_swap_141 : decode cX6_swap 141 = .ok (.goto (-112), 3) := by decide +kernel
theorem dX6_swap_144 : decode cX6_swap 144 = .ok (.aload_n 0, 1) := by decide +kernel
theorem dX6_swap_145 : decode cX6_swap 145 = .ok (.getfield 50, 3) := by decide +kernel
theorem dX6_swap_148 : decode cX6_swap 148 = .ok (.iload_n 2, 1) := by decide +kernel
theorem dX6_swap_149 : decode cX6_swap 149 = .ok (.invokevirtual 225, 3) := by decide +kernel
theorem dX6_swap_152 : decode cX6_swap 152 = .ok (.ireturn, 1) := by decide +kernel
theorem dX6_lose_0 : decode cX6_lose 0 = .ok (.iload_n 1, 1) := by decide +kernel
theorem dX6_lose_1 : decode cX6_lose 1 = .ok (.iconst 0, 1) := by decide +kernel
theorem dX6_lose_2 : decode cX6_lose 2 = .ok (.sipush 200, 3) := by decide +kernel
theorem dX6_lose_5 : decode cX6_lose 5 = .ok (.invokestatic 69, 3) := by decide +kernel
theorem dX6_lose_8 : decode cX6_lose 8 = .ok (.ifCond .eq 12, 3) := by decide +kernel
theorem dX6_lose_11 : decode cX6_lose 11 = .ok (.iload_n 2, 1) := by decide +kernel
theorem dX6_lose_12 : decode cX6_lose 12 = .ok (.iconst 0, 1) := by decide +kernel
theorem dX6_lose_13 : decode cX6_lose 13 = .ok (.iconst 1, 1) := by decide +kernel
theorem dX6_lose_14 : decode cX6_lose 14 = .ok (.invokestatic 69, 3) := by decide +kernel
theorem dX6_lose_17 : decode cX6_lose 17 = .ok (.ifCond .ne 5, 3) := by decide +kernel
theorem dX6_lose_20 : decode cX6_lose 20 = .ok (.iconst (-1), 1) := by decide +kernel
theorem dX6_lose_21 : decode cX6_lose 21 = .ok (.ireturn, 1) := by decide +kernel
theorem dX6_lose_22 : decode cX6_lose 22 = .ok (.aload_n 0, 1) := by decide +kernel
theorem dX6_lose_23 : decode cX6_lose 23 = .ok (.iload_n 1, 1) := by decide +kernel
theorem dX6_lose_24 : decode cX6_lose 24 = .ok (.invokevirtual 228, 3) := by decide +kernel
theorem dX6_lose_27 : decode cX6_lose 27 = .ok (.iconst 0, 1) := by decide +kernel
theorem dX6_lose_28 : decode cX6_lose 28 = .ok (.istore_n 3, 1) := by decide +kernel
theorem dX6_lose_29 : decode cX6_lose 29 = .ok (.iload_n 3, 1) := by decide +kernel
theorem dX6_lose_30 : decode cX6_lose 30 = .ok (.aload_n 0, 1) := by decide +kernel
theorem dX6_lose_31 : decode cX6_lose 31 = .ok (.getfield 10, 3) := by decide +kernel
theorem dX6_lose_34 : decode cX6_lose 34 = .ok (.getfield 103, 3) := by decide +kernel
theorem dX6_lose_37 : decode cX6_lose 37 = .ok (.if_icmp .ge 53, 3) := by decide +kernel
theorem dX6_lose_40 : decode cX6_lose 40 = .ok (.aload_n 0, 1) := by decide +kernel
theorem dX6_lose_41 : decode cX6_lose 41 = .ok (.getfield 16, 3) := by decide +kernel
theorem dX6_lose_44 : decode cX6_lose 44 = .ok (.aload_n 0, 1) := by decide +kernel
theorem dX6_lose_45 : decode cX6_lose 45 = .ok (.getfield 10, 3) := by decide +kernel
theorem dX6_lose_48 : decode cX6_lose 48 = .ok (.invokevirtual 90, 3) := by decide +kernel
theorem dX6_lose_51 : decode cX6_lose 51 = .ok (.aload_n 0, 1) := by decide +kernel
theorem dX6_lose_52 : decode cX6_lose 52 = .ok (.getfield 16, 3) := by decide +kernel
theorem dX6_lose_55 : decode cX6_lose 55 = .ok (.getfield 160, 3) := by decide +kernel
theorem dX6_lose_58 : decode cX6_lose 58 = .ok (.iload_n 3, 1) := by decide +kernel
theorem dX6_lose_59 : decode cX6_lose 59 = .ok (.iconst (-1), 1) := by decide +kernel
theorem dX6_lose_60 : decode cX6_lose 60 = .ok (.iastore, 1) := by decide +kernel
theorem dX6_lose_61 : decode cX6_lose 61 = .ok (.aload_n 0, 1) := by decide +kernel
theorem dX6_lose_62 : decode cX6_lose 62 = .ok (.getfield 50, 3) := by decide +kernel
theorem dX6_lose_65 : decode cX6_lose 65 = .ok (.iload_n 3, 1) := by decide +kernel
theorem dX6_lose_66 : decode cX6_lose 66 = .ok (.aload_n 0, 1) := by decide +kernel
theorem dX6_lose_67 : decode cX6_lose 67 = .ok (.getfield 16, 3) := by decide +kernel
theorem dX6_lose_70 : decode cX6_lose 70 = .ok (.iload_n 1, 1) := by decide +kernel
theorem dX6_lose_71 : decode cX6_lose 71 = .ok (.aload_n 0, 1) := by decide +kernel
theorem dX6_lose_72 : decode cX6_lose 72 = .ok (.getfield 50, 3) := by decide +kernel
theorem dX6_lose_75 : decode cX6_lose 75 = .ok (.getfield 222, 3) := by decide +kernel
theorem dX6_lose_78 : decode cX6_lose 78 = .ok (.invokevirtual 178, 3) := by decide +kernel
theorem dX6_lose_81 : decode cX6_lose 81 = .ok (.invokevirtual 131, 3) := by decide +kernel
theorem dX6_lose_84 : decode cX6_lose 84 = .ok (.iinc 3 1, 3) := by decide +kernel
theorem dX6_lose_87 : decode cX6_lose 87 = .ok (.goto (-58), 3) := by decide +kernel
theorem dX6_lose_90 : decode cX6_lose 90 = .ok (.aload_n 0, 1) := by decide +kernel
theorem dX6_lose_91 : decode cX6_lose 91 = .ok (.getfield 50, 3) := by decide +kernel
theorem dX6_lose_94 : decode cX6_lose 94 = .ok (.iload_n 2, 1) := by decide +kernel
theorem dX6_lose_95 : decode cX6_lose 95 = .ok (.invokevirtual 225, 3) := by decide +kernel
theorem dX6_lose_98 : decode cX6_lose 98 = .ok (.ireturn, 1) := by decide +kernel
theorem dX6_resetToPaidNow_0 : decode cX6_resetToPaidNow 0 = .ok (.aload_n 0, 1) := by decide +kernel
theorem dX6_resetToPaidNow_1 : decode cX6_resetToPaidNow 1 = .ok (.getfield 16, 3) := by decide +kernel
theorem dX6_resetToPaidNow_4 : decode cX6_resetToPaidNow 4 = .ok (.aload_n 0, 1) := by decide +kernel
theorem dX6_resetToPaidNow_5 : decode cX6_resetToPaidNow 5 = .ok (.getfield 10, 3) := by decide +kernel
theorem dX6_resetToPaidNow_8 : decode cX6_resetToPaidNow 8 = .ok (.invokevirtual 90, 3) := by decide +kernel
theorem dX6_resetToPaidNow_11 : decode cX6_resetToPaidNow 11 = .ok (.aload_n 0, 1) := by decide +kernel
theorem dX6_resetToPaidNow_12 : decode cX6_resetToPaidNow 12 = .ok (.getfield 50, 3) := by decide +kernel
theorem dX6_resetToPaidNow_15 : decode cX6_resetToPaidNow 15 = .ok (.aload_n 0, 1) := by decide +kernel
theorem dX6_resetToPaidNow_16 : decode cX6_resetToPaidNow 16 = .ok (.getfield 16, 3) := by decide +kernel
theorem dX6_resetToPaidNow_19 : decode cX6_resetToPaidNow 19 = .ok (.iload_n 1, 1) := by decide +kernel
theorem dX6_resetToPaidNow_20 : decode cX6_resetToPaidNow 20 = .ok (.ldc 117, 2) := by decide +kernel
theorem dX6_resetToPaidNow_22 : decode cX6_resetToPaidNow 22 = .ok (.invokevirtual 178, 3) := by decide +kernel
theorem dX6_resetToPaidNow_25 : decode cX6_resetToPaidNow 25 = .ok (.invokevirtual 118, 3) := by decide +kernel
theorem dX6_resetToPaidNow_28 : decode cX6_resetToPaidNow 28 = .ok (.return_, 1) := by decide +kernel
theorem dX6_luck_0 : decode cX6_luck 0 = .ok (.iload_n 1, 1) := by decide +kernel
theorem dX6_luck_1 : decode cX6_luck 1 = .ok (.iload 4, 2) := by decide +kernel
theorem dX6_luck_3 : decode cX6_luck 3 = .ok (.iload 5, 2) := by decide +kernel
theorem dX6_luck_5 : decode cX6_luck 5 = .ok (.invokestatic 231, 3) := by decide +kernel
theorem dX6_luck_8 : decode cX6_luck 8 = .ok (.ifCond .eq 25, 3) := by decide +kernel
theorem dX6_luck_11 : decode cX6_luck 11 = .ok (.aload_n 0, 1) := by decide +kernel
theorem dX6_luck_12 : decode cX6_luck 12 = .ok (.getfield 10, 3) := by decide +kernel
theorem dX6_luck_15 : decode cX6_luck 15 = .ok (.iload_n 2, 1) := by decide +kernel
theorem dX6_luck_16 : decode cX6_luck 16 = .ok (.invokevirtual 138, 3) := by decide +kernel
theorem dX6_luck_19 : decode cX6_luck 19 = .ok (.ifCond .eq 14, 3) := by decide +kernel
theorem dX6_luck_22 : decode cX6_luck 22 = .ok (.aload_n 0, 1) := by decide +kernel
theorem dX6_luck_23 : decode cX6_luck 23 = .ok (.getfield 10, 3) := by decide +kernel
theorem dX6_luck_26 : decode cX6_luck 26 = .ok (.iload_n 3, 1) := by decide +kernel
theorem dX6_luck_27 : decode cX6_luck 27 = .ok (.invokevirtual 151, 3) := by decide +kernel
theorem dX6_luck_30 : decode cX6_luck 30 = .ok (.ifCond .ne 7, 3) := by decide +kernel
theorem dX6_luck_33 : decode cX6_luck 33 = .ok (.ldc2_w 234, 3) := by decide +kernel
theorem dX6_luck_36 : decode cX6_luck 36 = .ok (.lreturn, 1) := by decide +kernel
theorem dX6_luck_37 : decode cX6_luck 37 = .ok (.aload_n 0, 1) := by decide +kernel
theorem dX6_luck_38 : decode cX6_luck 38 = .ok (.getfield 16, 3) := by decide +kernel
theorem dX6_luck_41 : decode cX6_luck 41 = .ok (.aload_n 0, 1) := by decide +kernel
theorem dX6_luck_42 : decode cX6_luck 42 = .ok (.getfield 10, 3) := by decide +kernel
theorem dX6_luck_45 : decode cX6_luck 45 = .ok (.invokevirtual 90, 3) := by decide +kernel
theorem dX6_luck_48 : decode cX6_luck 48 = .ok (.lconst 0, 1) := by decide +kernel
theorem dX6_luck_49 : decode cX6_luck 49 = .ok (.lstore 6, 2) := by decide +kernel
theorem dX6_luck_51 : decode cX6_luck 51 = .ok (.iconst 0, 1) := by decide +kernel
theorem dX6_luck_52 : decode cX6_luck 52 = .ok (.istore 8, 2) := by decide +kernel
theorem dX6_luck_54 : decode cX6_luck 54 = .ok (.iload 8, 2) := by decide +kernel
theorem dX6_luck_56 : decode cX6_luck 56 = .ok (.iconst 1, 1) := by decide +kernel
theorem dX6_luck_57 : decode cX6_luck 57 = .ok (.iload 4, 2) := by decide +kernel
theorem dX6_luck_59 : decode cX6_luck 59 = .ok (.ishl, 1) := by decide +kernel
theorem dX6_luck_60 : decode cX6_luck 60 = .ok (.if_icmp .ge 89, 3) := by decide +kernel
theorem dX6_luck_63 : decode cX6_luck 63 = .ok (.iload 8, 2) := by decide +kernel
theorem dX6_luck_65 : decode cX6_luck 65 = .ok (.iload_n 1, 1) := by decide +kernel
theorem dX6_luck_66 : decode cX6_luck 66 = .ok (.iload 4, 2) := by decide +kernel
theorem dX6_luck_68 : decode cX6_luck 68 = .ok (.invokestatic 236, 3) := by decide +kernel
theorem dX6_luck_71 : decode cX6_luck 71 = .ok (.lstore 9, 2) := by decide +kernel
theorem dX6_luck_73 : decode cX6_luck 73 = .ok (.lload 9, 2) := by decide +kernel
theorem dX6_luck_75 : decode cX6_luck 75 = .ok (.lconst 0, 1) := by decide +kernel
theorem dX6_luck_76 : decode cX6_luck 76 = .ok (.lcmp, 1) := by decide +kernel
theorem dX6_luck_77 : decode cX6_luck 77 = .ok (.ifCond .le 66, 3) := by decide +kernel
theorem dX6_luck_80 : decode cX6_luck 80 = .ok (.aload_n 0, 1) := by decide +kernel
theorem dX6_luck_81 : decode cX6_luck 81 = .ok (.getfield 16, 3) := by decide +kernel
theorem dX6_luck_84 : decode cX6_luck 84 = .ok (.getfield 122, 3) := by decide +kernel
theorem dX6_luck_87 : decode cX6_luck 87 = .ok (.iload_n 2, 1) := by decide +kernel
theorem dX6_luck_88 : decode cX6_luck 88 = .ok (.aaload, 1) := by decide +kernel
theorem dX6_luck_89 : decode cX6_luck 89 = .ok (.aload_n 0, 1) := by decide +kernel
theorem dX6_luck_90 : decode cX6_luck 90 = .ok (.getfield 10, 3) := by decide +kernel
theorem dX6_luck_93 : decode cX6_luck 93 = .ok (.getfield 122, 3) := by decide +kernel
theorem dX6_luck_96 : decode cX6_luck 96 = .ok (.iload_n 2, 1) := by decide +kernel
theorem dX6_luck_97 : decode cX6_luck 97 = .ok (.aaload, 1) := by decide +kernel
theorem dX6_luck_98 : decode cX6_luck 98 = .ok (.invokevirtual 205, 3) := by decide +kernel
theorem dX6_luck_101 : decode cX6_luck 101 = .ok (.aload_n 0, 1) := by decide +kernel
theorem dX6_luck_102 : decode cX6_luck 102 = .ok (.getfield 16, 3) := by decide +kernel
theorem dX6_luck_105 : decode cX6_luck 105 = .ok (.iload 8, 2) := by decide +kernel
theorem dX6_luck_107 : decode cX6_luck 107 = .ok (.iload_n 2, 1) := by decide +kernel
theorem dX6_luck_108 : decode cX6_luck 108 = .ok (.iload 4, 2) := by decide +kernel
theorem dX6_luck_110 : decode cX6_luck 110 = .ok (.invokevirtual 240, 3) := by decide +kernel
theorem dX6_luck_113 : decode cX6_luck 113 = .ok (.pop, 1) := by decide +kernel
theorem dX6_luck_114 : decode cX6_luck 114 = .ok (.lload 6, 2) := by decide +kernel
theorem dX6_luck_116 : decode cX6_luck 116 = .ok (.aload_n 0, 1) := by decide +kernel
theorem dX6_luck_117 : decode cX6_luck 117 = .ok (.getfield 16, 3) := by decide +kernel
theorem dX6_luck_120 : decode cX6_luck 120 = .ok (.getfield 122, 3) := by decide +kernel
theorem dX6_luck_123 : decode cX6_luck 123 = .ok (.iload_n 2, 1) := by decide +kernel
theorem dX6_luck_124 : decode cX6_luck 124 = .ok (.aaload, 1) := by decide +kernel
theorem dX6_luck_125 : decode cX6_luck 125 = .ok (.getfield 145, 3) := by decide +kernel
theorem dX6_luck_128 : decode cX6_luck 128 = .ok (.iconst 0, 1) := by decide +kernel
theorem dX6_luck_129 : decode cX6_luck 129 = .ok (.iaload, 1) := by decide +kernel
theorem dX6_luck_130 : decode cX6_luck 130 = .ok (.iload_n 3, 1) := by decide +kernel
theorem dX6_luck_131 : decode cX6_luck 131 = .ok (.if_icmp .ne 8, 3) := by decide +kernel
theorem dX6_luck_134 : decode cX6_luck 134 = .ok (.lload 9, 2) := by decide +kernel
theorem dX6_luck_136 : decode cX6_luck 136 = .ok (.goto 4, 3) := by decide +kernel
theorem dX6_luck_139 : decode cX6_luck 139 = .ok (.lconst 0, 1) := by decide +kernel
theorem dX6_luck_140 : decode cX6_luck 140 = .ok (.ladd, 1) := by decide +kernel
theorem dX6_luck_141 : decode cX6_luck 141 = .ok (.lstore 6, 2) := by decide +kernel
theorem dX6_luck_143 : decode cX6_luck 143 = .ok (.iinc 8 1, 3) := by decide +kernel
theorem dX6_luck_146 : decode cX6_luck 146 = .ok (.goto (-92), 3) := by decide +kernel
theorem dX6_luck_149 : decode cX6_luck 149 = .ok (.lload 6, 2) := by decide +kernel
theorem dX6_luck_151 : decode cX6_luck 151 = .ok (.bipush 10, 2) := by decide +kernel
theorem dX6_luck_153 : decode cX6_luck 153 = .ok (.iload 4, 2) := by decide +kernel
theorem dX6_luck_155 : decode cX6_luck 155 = .ok (.invokestatic 243, 3) := by decide +kernel
theorem dX6_luck_158 : decode cX6_luck 158 = .ok (.iload 5, 2) := by decide +kernel
theorem dX6_luck_160 : decode cX6_luck 160 = .ok (.invokestatic 247, 3) := by decide +kernel
theorem dX6_luck_163 : decode cX6_luck 163 = .ok (.lreturn, 1) := by decide +kernel
theorem dX6_mean_0 : decode cX6_mean 0 = .ok (.iload_n 1, 1) := by decide +kernel
theorem dX6_mean_1 : decode cX6_mean 1 = .ok (.iload_n 2, 1) := by decide +kernel
theorem dX6_mean_2 : decode cX6_mean 2 = .ok (.iload_n 3, 1) := by decide +kernel
theorem dX6_mean_3 : decode cX6_mean 3 = .ok (.invokestatic 231, 3) := by decide +kernel
theorem dX6_mean_6 : decode cX6_mean 6 = .ok (.ifCond .ne 7, 3) := by decide +kernel
theorem dX6_mean_9 : decode cX6_mean 9 = .ok (.ldc2_w 234, 3) := by decide +kernel
theorem dX6_mean_12 : decode cX6_mean 12 = .ok (.lreturn, 1) := by decide +kernel
theorem dX6_mean_13 : decode cX6_mean 13 = .ok (.aload_n 0, 1) := by decide +kernel
theorem dX6_mean_14 : decode cX6_mean 14 = .ok (.getfield 16, 3) := by decide +kernel
theorem dX6_mean_17 : decode cX6_mean 17 = .ok (.aload_n 0, 1) := by decide +kernel
theorem dX6_mean_18 : decode cX6_mean 18 = .ok (.getfield 10, 3) := by decide +kernel
theorem dX6_mean_21 : decode cX6_mean 21 = .ok (.invokevirtual 90, 3) := by decide +kernel
theorem dX6_mean_24 : decode cX6_mean 24 = .ok (.lconst 0, 1) := by decide +kernel
theorem dX6_mean_25 : decode cX6_mean 25 = .ok (.lstore 4, 2) := by decide +kernel
theorem dX6_mean_27 : decode cX6_mean 27 = .ok (.iconst 0, 1) := by decide +kernel
theorem dX6_mean_28 : decode cX6_mean 28 = .ok (.istore 6, 2) := by decide +kernel
theorem dX6_mean_30 : decode cX6_mean 30 = .ok (.iload 6, 2) := by decide +kernel
theorem dX6_mean_32 : decode cX6_mean 32 = .ok (.iconst 1, 1) := by decide +kernel
theorem dX6_mean_33 : decode cX6_mean 33 = .ok (.iload_n 2, 1) := by decide +kernel
theorem dX6_mean_34 : decode cX6_mean 34 = .ok (.ishl, 1) := by decide +kernel
theorem dX6_mean_35 : decode cX6_mean 35 = .ok (.if_icmp .ge 90, 3) := by decide +kernel
theorem dX6_mean_38 : decode cX6_mean 38 = .ok (.iload 6, 2) := by decide +kernel
theorem dX6_mean_40 : decode cX6_mean 40 = .ok (.iload_n 1, 1) := by decide +kernel
theorem dX6_mean_41 : decode cX6_mean 41 = .ok (.iload_n 2, 1) := by decide +kernel
theorem dX6_mean_42 : decode cX6_mean 42 = .ok (.invokestatic 236, 3) := by decide +kernel
theorem dX6_mean_45 : decode cX6_mean 45 = .ok (.lstore 7, 2) := by decide +kernel
theorem dX6_mean_47 : decode cX6_mean 47 = .ok (.iconst 0, 1) := by decide +kernel
theorem dX6_mean_48 : decode cX6_mean 48 = .ok (.istore 9, 2) := by decide +kernel
theorem dX6_mean_50 : decode cX6_mean 50 = .ok (.iload 9, 2) := by decide +kernel
theorem dX6_mean_52 : decode cX6_mean 52 = .ok (.aload_n 0, 1) := by decide +kernel
theorem dX6_mean_53 : decode cX6_mean 53 = .ok (.getfield 10, 3) := by decide +kernel
theorem dX6_mean_56 : decode cX6_mean 56 = .ok (.getfield 100, 3) := by decide +kernel
theorem dX6_mean_59 : decode cX6_mean 59 = .ok (.if_icmp .ge 60, 3) := by decide +kernel
theorem dX6_mean_62 : decode cX6_mean 62 = .ok (.lload 7, 2) := by decide +kernel
theorem dX6_mean_64 : decode cX6_mean 64 = .ok (.lconst 0, 1) := by decide +kernel
theorem dX6_mean_65 : decode cX6_mean 65 = .ok (.lcmp, 1) := by decide +kernel
theorem dX6_mean_66 : decode cX6_mean 66 = .ok (.ifCond .le 53, 3) := by decide +kernel
theorem dX6_mean_69 : decode cX6_mean 69 = .ok (.aload_n 0, 1) := by decide +kernel
theorem dX6_mean_70 : decode cX6_mean 70 = .ok (.getfield 16, 3) := by decide +kernel
theorem dX6_mean_73 : decode cX6_mean 73 = .ok (.getfield 122, 3) := by decide +kernel
theorem dX6_mean_76 : decode cX6_mean 76 = .ok (.iload 9, 2) := by decide +kernel
theorem dX6_mean_78 : decode cX6_mean 78 = .ok (.aaload, 1) := by decide +kernel
theorem dX6_mean_79 : decode cX6_mean 79 = .ok (.aload_n 0, 1) := by decide +kernel
theorem dX6_mean_80 : decode cX6_mean 80 = .ok (.getfield 10, 3) := by decide +kernel
theorem dX6_mean_83 : decode cX6_mean 83 = .ok (.getfield 122, 3) := by decide +kernel
theorem dX6_mean_86 : decode cX6_mean 86 = .ok (.iload 9, 2) := by decide +kernel
theorem dX6_mean_88 : decode cX6_mean 88 = .ok (.aaload, 1) := by decide +kernel
theorem dX6_mean_89 : decode cX6_mean 89 = .ok (.invokevirtual 205, 3) := by decide +kernel
theorem dX6_mean_92 : decode cX6_mean 92 = .ok (.lload 4, 2) := by decide +kernel
theorem dX6_mean_94 : decode cX6_mean 94 = .ok (.lload 7, 2) := by decide +kernel
theorem dX6_mean_96 : decode cX6_mean 96 = .ok (.aload_n 0, 1) := by decide +kernel
theorem dX6_mean_97 : decode cX6_mean 97 = .ok (.getfield 16, 3) := by decide +kernel
theorem dX6_mean_100 : decode cX6_mean 100 = .ok (.iload 6, 2) := by decide +kernel
theorem dX6_mean_102 : decode cX6_mean 102 = .ok (.iload 9, 2) := by decide +kernel
theorem dX6_mean_104 : decode cX6_mean 104 = .ok (.iload_n 2, 1) := by decide +kernel
theorem dX6_mean_105 : decode cX6_mean 105 = .ok (.invokevirtual 240, 3) := by decide +kernel
theorem dX6_mean_108 : decode cX6_mean 108 = .ok (.i2l, 1) := by decide +kernel
theorem dX6_mean_109 : decode cX6_mean 109 = .ok (.lmul, 1) := by decide +kernel
theorem dX6_mean_110 : decode cX6_mean 110 = .ok (.ladd, 1) := by decide +kernel
theorem dX6_mean_111 : decode cX6_mean 111 = .ok (.lstore 4, 2) := by decide +kernel
theorem dX6_mean_113 : decode cX6_mean 113 = .ok (.iinc 9 1, 3) := by decide +kernel
theorem dX6_mean_116 : decode cX6_mean 116 = .ok (.goto (-66), 3) := by decide +kernel
theorem dX6_mean_119 : decode cX6_mean 119 = .ok (.iinc 6 1, 3) := by decide +kernel
theorem dX6_mean_122 : decode cX6_mean 122 = .ok (.goto (-92), 3) := by decide +kernel
theorem dX6_mean_125 : decode cX6_mean 125 = .ok (.lload 4, 2) := by decide +kernel
theorem dX6_mean_127 : decode cX6_mean 127 = .ok (.bipush 10, 2) := by decide +kernel
theorem dX6_mean_129 : decode cX6_mean 129 = .ok (.iload_n 2, 1) := by decide +kernel
theorem dX6_mean_130 : decode cX6_mean 130 = .ok (.invokestatic 243, 3) := by decide +kernel
theorem dX6_mean_133 : decode cX6_mean 133 = .ok (.iload_n 3, 1) := by decide +kernel
theorem dX6_mean_134 : decode cX6_mean 134 = .ok (.invokestatic 247, 3) := by decide +kernel
theorem dX6_mean_137 : decode cX6_mean 137 = .ok (.lreturn, 1) := by decide +kernel
theorem dX6_areOdds_0 : decode cX6_areOdds 0 = .ok (.iload_n 0, 1) := by decide +kernel
theorem dX6_areOdds_1 : decode cX6_areOdds 1 = .ok (.iconst 0, 1) := by decide +kernel
theorem dX6_areOdds_2 : decode cX6_areOdds 2 = .ok (.bipush 10, 2) := by decide +kernel
theorem dX6_areOdds_4 : decode cX6_areOdds 4 = .ok (.invokestatic 69, 3) := by decide +kernel
theorem dX6_areOdds_7 : decode cX6_areOdds 7 = .ok (.ifCond .eq 26, 3) := by decide +kernel
theorem dX6_areOdds_10 : decode cX6_areOdds 10 = .ok (.iload_n 1, 1) := by decide +kernel
theorem dX6_areOdds_11 : decode cX6_areOdds 11 = .ok (.iconst 0, 1) := by decide +kernel
theorem dX6_areOdds_12 : decode cX6_areOdds 12 = .ok (.bipush 8, 2) := by decide +kernel
theorem dX6_areOdds_14 : decode cX6_areOdds 14 = .ok (.invokestatic 69, 3) := by decide +kernel
theorem dX6_areOdds_17 : decode cX6_areOdds 17 = .ok (.ifCond .eq 16, 3) := by decide +kernel
theorem dX6_areOdds_20 : decode cX6_areOdds 20 = .ok (.iload_n 2, 1) := by decide +kernel
theorem dX6_areOdds_21 : decode cX6_areOdds 21 = .ok (.iconst 0, 1) := by decide +kernel
theorem dX6_areOdds_22 : decode cX6_areOdds 22 = .ok (.iconst 1, 1) := by decide +kernel
theorem dX6_areOdds_23 : decode cX6_areOdds 23 = .ok (.invokestatic 69, 3) := by decide +kernel
theorem dX6_areOdds_26 : decode cX6_areOdds 26 = .ok (.ifCond .eq 7, 3) := by decide +kernel
theorem dX6_areOdds_29 : decode cX6_areOdds 29 = .ok (.iconst 1, 1) := by decide +kernel
theorem dX6_areOdds_30 : decode cX6_areOdds 30 = .ok (.goto 4, 3) := by decide +kernel
theorem dX6_areOdds_33 : decode cX6_areOdds 33 = .ok (.iconst 0, 1) := by decide +kernel
theorem dX6_areOdds_34 : decode cX6_areOdds 34 = .ok (.ireturn, 1) := by decide +kernel
theorem dX6_weightOf_0 : decode cX6_weightOf 0 = .ok (.iload_n 0, 1) := by decide +kernel
theorem dX6_weightOf_1 : decode cX6_weightOf 1 = .ok (.invokestatic 251, 3) := by decide +kernel
theorem dX6_weightOf_4 : decode cX6_weightOf 4 = .ok (.istore_n 3, 1) := by decide +kernel
theorem dX6_weightOf_5 : decode cX6_weightOf 5 = .ok (.iload_n 1, 1) := by decide +kernel
theorem dX6_weightOf_6 : decode cX6_weightOf 6 = .ok (.iload_n 3, 1) := by decide +kernel
theorem dX6_weightOf_7 : decode cX6_weightOf 7 = .ok (.invokestatic 243, 3) := by decide +kernel
theorem dX6_weightOf_10 : decode cX6_weightOf 10 = .ok (.bipush 10, 2) := by decide +kernel
theorem dX6_weightOf_12 : decode cX6_weightOf 12 = .ok (.iload_n 1, 1) := by decide +kernel
theorem dX6_weightOf_13 : decode cX6_weightOf 13 = .ok (.isub, 1) := by decide +kernel
theorem dX6_weightOf_14 : decode cX6_weightOf 14 = .ok (.iload_n 2, 1) := by decide +kernel
theorem dX6_weightOf_15 : decode cX6_weightOf 15 = .ok (.iload_n 3, 1) := by decide +kernel
theorem dX6_weightOf_16 : decode cX6_weightOf 16 = .ok (.isub, 1) := by decide +kernel
theorem dX6_weightOf_17 : decode cX6_weightOf 17 = .ok (.invokestatic 243, 3) := by decide +kernel
theorem dX6_weightOf_20 : decode cX6_weightOf 20 = .ok (.lmul, 1) := by decide +kernel
theorem dX6_weightOf_21 : decode cX6_weightOf 21 = .ok (.lreturn, 1) := by decide +kernel
theorem dX6_power_0 : decode cX6_power 0 = .ok (.lconst 1, 1) := by decide +kernel
theorem dX6_power_1 : decode cX6_power 1 = .ok (.lstore_n 2, 1) := by decide +kernel
theorem dX6_power_2 : decode cX6_power 2 = .ok (.iconst 0, 1) := by decide +kernel
theorem dX6_power_3 : decode cX6_power 3 = .ok (.istore 4, 2) := by decide +kernel
theorem dX6_power_5 : decode cX6_power 5 = .ok (.iload 4, 2) := by decide +kernel
theorem dX6_power_7 : decode cX6_power 7 = .ok (.iload_n 1, 1) := by decide +kernel
theorem dX6_power_8 : decode cX6_power 8 = .ok (.if_icmp .ge 14, 3) := by decide +kernel
