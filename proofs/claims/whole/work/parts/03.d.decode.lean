theorem dX7_readLine_110 : decode cX7_readLine 110 = .ok (.iconst 3, 1) := by decide +kernel
theorem dX7_readLine_111 : decode cX7_readLine 111 = .ok (.if_icmp .eq 8, 3) := by decide +kernel
theorem dX7_readLine_114 : decode cX7_readLine 114 = .ok (.aload_n 0, 1) := by decide +kernel
theorem dX7_readLine_115 : decode cX7_readLine 115 = .ok (.iconst 2, 1) := by decide +kernel
theorem dX7_readLine_116 : decode cX7_readLine 116 = .ok (.invokevirtual 93, 3) := by decide +kernel
theorem dX7_readLine_119 : decode cX7_readLine 119 = .ok (.aload_n 0, 1) := by decide +kernel
theorem dX7_readLine_120 : decode cX7_readLine 120 = .ok (.invokevirtual 97, 3) := by decide +kernel
theorem dX7_readLine_123 : decode cX7_readLine 123 = .ok (.return_, 1) := by decide +kernel
theorem dX7_text_0 : decode cX7_text 0 = .ok (.aload_n 0, 1) := by decide +kernel
theorem dX7_text_1 : decode cX7_text 1 = .ok (.iconst 0, 1) := by decide +kernel
theorem dX7_text_2 : decode cX7_text 2 = .ok (.putfield 63, 3) := by decide +kernel
theorem dX7_text_5 : decode cX7_text 5 = .ok (.aload_n 0, 1) := by decide +kernel
theorem dX7_text_6 : decode cX7_text 6 = .ok (.iconst 0, 1) := by decide +kernel
theorem dX7_text_7 : decode cX7_text 7 = .ok (.putfield 75, 3) := by decide +kernel
theorem dX7_text_10 : decode cX7_text 10 = .ok (.aload_n 0, 1) := by decide +kernel
theorem dX7_text_11 : decode cX7_text 11 = .ok (.iconst 4, 1) := by decide +kernel
theorem dX7_text_12 : decode cX7_text 12 = .ok (.putfield 107, 3) := by decide +kernel
theorem dX7_text_15 : decode cX7_text 15 = .ok (.aload_n 0, 1) := by decide +kernel
theorem dX7_text_16 : decode cX7_text 16 = .ok (.iconst 0, 1) := by decide +kernel
theorem dX7_text_17 : decode cX7_text 17 = .ok (.putfield 119, 3) := by decide +kernel
theorem dX7_text_20 : decode cX7_text 20 = .ok (.aload_n 0, 1) := by decide +kernel
theorem dX7_text_21 : decode cX7_text 21 = .ok (.iconst (-1), 1) := by decide +kernel
theorem dX7_text_22 : decode cX7_text 22 = .ok (.putfield 104, 3) := by decide +kernel
theorem dX7_text_25 : decode cX7_text 25 = .ok (.iconst 0, 1) := by decide +kernel
theorem dX7_text_26 : decode cX7_text 26 = .ok (.istore_n 1, 1) := by decide +kernel
theorem dX7_text_27 : decode cX7_text 27 = .ok (.iconst 0, 1) := by decide +kernel
theorem dX7_text_28 : decode cX7_text 28 = .ok (.istore_n 2, 1) := by decide +kernel
theorem dX7_text_29 : decode cX7_text 29 = .ok (.iload_n 2, 1) := by decide +kernel
theorem dX7_text_30 : decode cX7_text 30 = .ok (.bipush 75, 2) := by decide +kernel
theorem dX7_text_32 : decode cX7_text 32 = .ok (.if_icmp .ge 16, 3) := by decide +kernel
theorem dX7_text_35 : decode cX7_text 35 = .ok (.aload_n 0, 1) := by decide +kernel
theorem dX7_text_36 : decode cX7_text 36 = .ok (.getfield 17, 3) := by decide +kernel
theorem dX7_text_39 : decode cX7_text 39 = .ok (.iload_n 2, 1) := by decide +kernel
theorem dX7_text_40 : decode cX7_text 40 = .ok (.iconst 0, 1) := by decide +kernel
theorem dX7_text_41 : decode cX7_text 41 = .ok (.iastore, 1) := by decide +kernel
theorem dX7_text_42 : decode cX7_text 42 = .ok (.iinc 2 1, 3) := by decide +kernel
theorem dX7_text_45 : decode cX7_text 45 = .ok (.goto (-16), 3) := by decide +kernel
theorem dX7_text_48 : decode cX7_text 48 = .ok (.aload_n 0, 1) := by decide +kernel
theorem dX7_text_49 : decode cX7_text 49 = .ok (.invokevirtual 97, 3) := by decide +kernel
theorem dX7_text_52 : decode cX7_text 52 = .ok (.aload_n 0, 1) := by decide +kernel
theorem dX7_text_53 : decode cX7_text 53 = .ok (.getfield 63, 3) := by decide +kernel
theorem dX7_text_56 : decode cX7_text 56 = .ok (.ifCond .ne 20, 3) := by decide +kernel
theorem dX7_text_59 : decode cX7_text 59 = .ok (.aload_n 0, 1) := by decide +kernel
theorem dX7_text_60 : decode cX7_text 60 = .ok (.getfield 72, 3) := by decide +kernel
theorem dX7_text_63 : decode cX7_text 63 = .ok (.ifCond .eq 13, 3) := by decide +kernel
theorem dX7_text_66 : decode cX7_text 66 = .ok (.aload_n 0, 1) := by decide +kernel
theorem dX7_text_67 : decode cX7_text 67 = .ok (.invokevirtual 126, 3) := by decide +kernel
theorem dX7_text_70 : decode cX7_text 70 = .ok (.iinc 1 1, 3) := by decide +kernel
theorem dX7_text_73 : decode cX7_text 73 = .ok (.goto (-21), 3) := by decide +kernel
theorem dX7_text_76 : decode cX7_text 76 = .ok (.aload_n 0, 1) := by decide +kernel
theorem dX7_text_77 : decode cX7_text 77 = .ok (.getfield 63, 3) := by decide +kernel
theorem dX7_text_80 : decode cX7_text 80 = .ok (.ifCond .ne 20, 3) := by decide +kernel
theorem dX7_text_83 : decode cX7_text 83 = .ok (.aload_n 0, 1) := by decide +kernel
theorem dX7_text_84 : decode cX7_text 84 = .ok (.getfield 104, 3) := by decide +kernel
theorem dX7_text_87 : decode cX7_text 87 = .ok (.aload_n 0, 1) := by decide +kernel
theorem dX7_text_88 : decode cX7_text 88 = .ok (.getfield 107, 3) := by decide +kernel
theorem dX7_text_91 : decode cX7_text 91 = .ok (.if_icmp .lt 9, 3) := by decide +kernel
theorem dX7_text_94 : decode cX7_text 94 = .ok (.aload_n 0, 1) := by decide +kernel
theorem dX7_text_95 : decode cX7_text 95 = .ok (.bipush 6, 2) := by decide +kernel
theorem dX7_text_97 : decode cX7_text 97 = .ok (.invokevirtual 93, 3) := by decide +kernel
theorem dX7_text_100 : decode cX7_text 100 = .ok (.aload_n 0, 1) := by decide +kernel
theorem dX7_text_101 : decode cX7_text 101 = .ok (.iconst 0, 1) := by decide +kernel
theorem dX7_text_102 : decode cX7_text 102 = .ok (.putfield 60, 3) := by decide +kernel
theorem dX7_text_105 : decode cX7_text 105 = .ok (.aload_n 0, 1) := by decide +kernel
theorem dX7_text_106 : decode cX7_text 106 = .ok (.aload_n 0, 1) := by decide +kernel
theorem dX7_text_107 : decode cX7_text 107 = .ok (.getfield 63, 3) := by decide +kernel
theorem dX7_text_110 : decode cX7_text 110 = .ok (.putfield 129, 3) := by decide +kernel
theorem dX7_text_113 : decode cX7_text 113 = .ok (.aload_n 0, 1) := by decide +kernel
theorem dX7_text_114 : decode cX7_text 114 = .ok (.getfield 63, 3) := by decide +kernel
theorem dX7_text_117 : decode cX7_text 117 = .ok (.ifCond .le 11, 3) := by decide +kernel
theorem dX7_text_120 : decode cX7_text 120 = .ok (.bipush (-10), 2) := by decide +kernel
theorem dX7_text_122 : decode cX7_text 122 = .ok (.aload_n 0, 1) := by decide +kernel
theorem dX7_text_123 : decode cX7_text 123 = .ok (.getfield 69, 3) := by decide +kernel
theorem dX7_text_126 : decode cX7_text 126 = .ok (.isub, 1) := by decide +kernel
theorem dX7_text_127 : decode cX7_text 127 = .ok (.ireturn, 1) := by decide +kernel
theorem dX7_text_128 : decode cX7_text 128 = .ok (.iconst 0, 1) := by decide +kernel
theorem dX7_text_129 : decode cX7_text 129 = .ok (.istore_n 2, 1) := by decide +kernel
theorem dX7_text_130 : decode cX7_text 130 = .ok (.iload_n 2, 1) := by decide +kernel
theorem dX7_text_131 : decode cX7_text 131 = .ok (.bipush 75, 2) := by decide +kernel
theorem dX7_text_133 : decode cX7_text 133 = .ok (.if_icmp .ge 21, 3) := by decide +kernel
theorem dX7_text_136 : decode cX7_text 136 = .ok (.aload_n 0, 1) := by decide +kernel
theorem dX7_text_137 : decode cX7_text 137 = .ok (.getfield 7, 3) := by decide +kernel
theorem dX7_text_140 : decode cX7_text 140 = .ok (.iload_n 2, 1) := by decide +kernel
theorem dX7_text_141 : decode cX7_text 141 = .ok (.aload_n 0, 1) := by decide +kernel
theorem dX7_text_142 : decode cX7_text 142 = .ok (.getfield 17, 3) := by decide +kernel
theorem dX7_text_145 : decode cX7_text 145 = .ok (.iload_n 2, 1) := by decide +kernel
theorem dX7_text_146 : decode cX7_text 146 = .ok (.iaload, 1) := by decide +kernel
theorem dX7_text_147 : decode cX7_text 147 = .ok (.iastore, 1) := by decide +kernel
theorem dX7_text_148 : decode cX7_text 148 = .ok (.iinc 2 1, 3) := by decide +kernel
theorem dX7_text_151 : decode cX7_text 151 = .ok (.goto (-21), 3) := by decide +kernel
theorem dX7_text_154 : decode cX7_text 154 = .ok (.aload_n 0, 1) := by decide +kernel
theorem dX7_text_155 : decode cX7_text 155 = .ok (.aload_n 0, 1) := by decide +kernel
theorem dX7_text_156 : decode cX7_text 156 = .ok (.getfield 107, 3) := by decide +kernel
theorem dX7_text_159 : decode cX7_text 159 = .ok (.putfield 13, 3) := by decide +kernel
theorem dX7_text_162 : decode cX7_text 162 = .ok (.iconst 0, 1) := by decide +kernel
theorem dX7_text_163 : decode cX7_text 163 = .ok (.istore_n 2, 1) := by decide +kernel
theorem dX7_text_164 : decode cX7_text 164 = .ok (.iload_n 2, 1) := by decide +kernel
theorem dX7_text_165 : decode cX7_text 165 = .ok (.aload_n 0, 1) := by decide +kernel
theorem dX7_text_166 : decode cX7_text 166 = .ok (.getfield 7, 3) := by decide +kernel
theorem dX7_text_169 : decode cX7_text 169 = .ok (.bipush 8, 2) := by decide +kernel
theorem dX7_text_171 : decode cX7_text 171 = .ok (.iaload, 1) := by decide +kernel
theorem dX7_text_172 : decode cX7_text 172 = .ok (.if_icmp .ge 14, 3) := by decide +kernel
theorem dX7_text_175 : decode cX7_text 175 = .ok (.aload_n 0, 1) := by decide +kernel
theorem dX7_text_176 : decode cX7_text 176 = .ok (.iload_n 2, 1) := by decide +kernel
theorem dX7_text_177 : decode cX7_text 177 = .ok (.invokevirtual 132, 3) := by decide +kernel
theorem dX7_text_180 : decode cX7_text 180 = .ok (.iinc 2 1, 3) := by decide +kernel
theorem dX7_text_183 : decode cX7_text 183 = .ok (.goto (-19), 3) := by decide +kernel
theorem dX7_text_186 : decode cX7_text 186 = .ok (.aload_n 0, 1) := by decide +kernel
theorem dX7_text_187 : decode cX7_text 187 = .ok (.iconst 0, 1) := by decide +kernel
theorem dX7_text_188 : decode cX7_text 188 = .ok (.putfield 135, 3) := by decide +kernel
theorem dX7_text_191 : decode cX7_text 191 = .ok (.aload_n 0, 1) := by decide +kernel
theorem dX7_text_192 : decode cX7_text 192 = .ok (.getfield 41, 3) := by decide +kernel
theorem dX7_text_195 : decode cX7_text 195 = .ok (.iconst 0, 1) := by decide +kernel
theorem dX7_text_196 : decode cX7_text 196 = .ok (.iconst 0, 1) := by decide +kernel
theorem dX7_text_197 : decode cX7_text 197 = .ok (.bastore, 1) := by decide +kernel
theorem dX7_text_198 : decode cX7_text 198 = .ok (.aload_n 0, 1) := by decide +kernel
theorem dX7_text_199 : decode cX7_text 199 = .ok (.getfield 41, 3) := by decide +kernel
theorem dX7_text_202 : decode cX7_text 202 = .ok (.iconst 1, 1) := by decide +kernel
theorem dX7_text_203 : decode cX7_text 203 = .ok (.iconst 0, 1) := by decide +kernel
theorem dX7_text_204 : decode cX7_text 204 = .ok (.bastore, 1) := by decide +kernel
theorem dX7_text_205 : decode cX7_text 205 = .ok (.iload_n 1, 1) := by decide +kernel
theorem dX7_text_206 : decode cX7_text 206 = .ok (.ireturn, 1) := by decide +kernel
theorem dX7_fault_0 : decode cX7_fault 0 = .ok (.aload_n 0, 1) := by decide +kernel
theorem dX7_fault_1 : decode cX7_fault 1 = .ok (.getfield 129, 3) := by decide +kernel
theorem dX7_fault_4 : decode cX7_fault 4 = .ok (.ireturn, 1) := by decide +kernel
theorem dX7_ordersFirst_0 : decode cX7_ordersFirst 0 = .ok (.iconst 0, 1) := by decide +kernel
theorem dX7_ordersFirst_1 : decode cX7_ordersFirst 1 = .ok (.istore_n 2, 1) := by decide +kernel
theorem dX7_ordersFirst_2 : decode cX7_ordersFirst 2 = .ok (.iload_n 2, 1) := by decide +kernel
theorem dX7_ordersFirst_3 : decode cX7_ordersFirst 3 = .ok (.bipush 6, 2) := by decide +kernel
theorem dX7_ordersFirst_5 : decode cX7_ordersFirst 5 = .ok (.if_icmp .ge 39, 3) := by decide +kernel
theorem dX7_ordersFirst_8 : decode cX7_ordersFirst 8 = .ok (.aload_n 0, 1) := by decide +kernel
theorem dX7_ordersFirst_9 : decode cX7_ordersFirst 9 = .ok (.getfield 7, 3) := by decide +kernel
theorem dX7_ordersFirst_12 : decode cX7_ordersFirst 12 = .ok (.bipush 27, 2) := by decide +kernel
theorem dX7_ordersFirst_14 : decode cX7_ordersFirst 14 = .ok (.bipush 6, 2) := by decide +kernel
theorem dX7_ordersFirst_16 : decode cX7_ordersFirst 16 = .ok (.iload_n 1, 1) := by decide +kernel
theorem dX7_ordersFirst_17 : decode cX7_ordersFirst 17 = .ok (.imul, 1) := by decide +kernel
theorem dX7_ordersFirst_18 : decode cX7_ordersFirst 18 = .ok (.iadd, 1) := by decide +kernel
theorem dX7_ordersFirst_19 : decode cX7_ordersFirst 19 = .ok (.iload_n 2, 1) := by decide +kernel
theorem dX7_ordersFirst_20 : decode cX7_ordersFirst 20 = .ok (.iadd, 1) := by decide +kernel
theorem dX7_ordersFirst_21 : decode cX7_ordersFirst 21 = .ok (.iload_n 2, 1) := by decide +kernel
theorem dX7_ordersFirst_22 : decode cX7_ordersFirst 22 = .ok (.iastore, 1) := by decide +kernel
theorem dX7_ordersFirst_23 : decode cX7_ordersFirst 23 = .ok (.aload_n 0, 1) := by decide +kernel
theorem dX7_ordersFirst_24 : decode cX7_ordersFirst 24 = .ok (.getfield 7, 3) := by decide +kernel
theorem dX7_ordersFirst_27 : decode cX7_ordersFirst 27 = .ok (.bipush 51, 2) := by decide +kernel
theorem dX7_ordersFirst_29 : decode cX7_ordersFirst 29 = .ok (.bipush 6, 2) := by decide +kernel
theorem dX7_ordersFirst_31 : decode cX7_ordersFirst 31 = .ok (.iload_n 1, 1) := by decide +kernel
theorem dX7_ordersFirst_32 : decode cX7_ordersFirst 32 = .ok (.imul, 1) := by decide +kernel
theorem dX7_ordersFirst_33 : decode cX7_ordersFirst 33 = .ok (.iadd, 1) := by decide +kernel
theorem dX7_ordersFirst_34 : decode cX7_ordersFirst 34 = .ok (.iload_n 2, 1) := by decide +kernel
theorem dX7_ordersFirst_35 : decode cX7_ordersFirst 35 = .ok (.iadd, 1) := by decide +kernel
theorem dX7_ordersFirst_36 : decode cX7_ordersFirst 36 = .ok (.iconst 0, 1) := by decide +kernel
theorem dX7_ordersFirst_37 : decode cX7_ordersFirst 37 = .ok (.iastore, 1) := by decide +kernel
theorem dX7_ordersFirst_38 : decode cX7_ordersFirst 38 = .ok (.iinc 2 1, 3) := by decide +kernel
theorem dX7_ordersFirst_41 : decode cX7_ordersFirst 41 = .ok (.goto (-39), 3) := by decide +kernel
theorem dX7_ordersFirst_44 : decode cX7_ordersFirst 44 = .ok (.aload_n 0, 1) := by decide +kernel
theorem dX7_ordersFirst_45 : decode cX7_ordersFirst 45 = .ok (.getfield 7, 3) := by decide +kernel
theorem dX7_ordersFirst_48 : decode cX7_ordersFirst 48 = .ok (.iconst 4, 1) := by decide +kernel
theorem dX7_ordersFirst_49 : decode cX7_ordersFirst 49 = .ok (.iload_n 1, 1) := by decide +kernel
theorem dX7_ordersFirst_50 : decode cX7_ordersFirst 50 = .ok (.iadd, 1) := by decide +kernel
theorem dX7_ordersFirst_51 : decode cX7_ordersFirst 51 = .ok (.iconst 0, 1) := by decide +kernel
theorem dX7_ordersFirst_52 : decode cX7_ordersFirst 52 = .ok (.iastore, 1) := by decide +kernel
theorem dX7_ordersFirst_53 : decode cX7_ordersFirst 53 = .ok (.return_, 1) := by decide +kernel
theorem dX7_isShelf_0 : decode cX7_isShelf 0 = .ok (.iload_n 1, 1) := by decide +kernel
theorem dX7_isShelf_1 : decode cX7_isShelf 1 = .ok (.i2l, 1) := by decide +kernel
theorem dX7_isShelf_2 : decode cX7_isShelf 2 = .ok (.lconst 0, 1) := by decide +kernel
theorem dX7_isShelf_3 : decode cX7_isShelf 3 = .ok (.aload_n 0, 1) := by decide +kernel
theorem dX7_isShelf_4 : decode cX7_isShelf 4 = .ok (.getfield 7, 3) := by decide +kernel
theorem dX7_isShelf_7 : decode cX7_isShelf 7 = .ok (.bipush 8, 2) := by decide +kernel
theorem dX7_isShelf_9 : decode cX7_isShelf 9 = .ok (.iaload, 1) := by decide +kernel
theorem dX7_isShelf_10 : decode cX7_isShelf 10 = .ok (.iconst 1, 1) := by decide +kernel
theorem dX7_isShelf_11 : decode cX7_isShelf 11 = .ok (.isub, 1) := by decide +kernel
theorem dX7_isShelf_12 : decode cX7_isShelf 12 = .ok (.i2l, 1) := by decide +kernel
theorem dX7_isShelf_13 : decode cX7_isShelf 13 = .ok (.invokestatic 56, 3) := by decide +kernel
theorem dX7_isShelf_16 : decode cX7_isShelf 16 = .ok (.ireturn, 1) := by decide +kernel
theorem dX7_isBook_0 : decode cX7_isBook 0 = .ok (.iload_n 1, 1) := by decide +kernel
theorem dX7_isBook_1 : decode cX7_isBook 1 = .ok (.i2l, 1) := by decide +kernel
theorem dX7_isBook_2 : decode cX7_isBook 2 = .ok (.lconst 0, 1) := by decide +kernel
theorem dX7_isBook_3 : decode cX7_isBook 3 = .ok (.aload_n 0, 1) := by decide +kernel
theorem dX7_isBook_4 : decode cX7_isBook 4 = .ok (.getfield 13, 3) := by decide +kernel
theorem dX7_isBook_7 : decode cX7_isBook 7 = .ok (.iconst 1, 1) := by decide +kernel
theorem dX7_isBook_8 : decode cX7_isBook 8 = .ok (.isub, 1) := by decide +kernel
theorem dX7_isBook_9 : decode cX7_isBook 9 = .ok (.i2l, 1) := by decide +kernel
theorem dX7_isBook_10 : decode cX7_isBook 10 = .ok (.invokestatic 56, 3) := by decide +kernel
theorem dX7_isBook_13 : decode cX7_isBook 13 = .ok (.ireturn, 1) := by decide +kernel
theorem dX7_isWant_0 : decode cX7_isWant 0 = .ok (.iload_n 1, 1) := by decide +kernel
theorem dX7_isWant_1 : decode cX7_isWant 1 = .ok (.i2l, 1) := by decide +kernel
theorem dX7_isWant_2 : decode cX7_isWant 2 = .ok (.lconst 0, 1) := by decide +kernel
theorem dX7_isWant_3 : decode cX7_isWant 3 = .ok (.aload_n 0, 1) := by decide +kernel
theorem dX7_isWant_4 : decode cX7_isWant 4 = .ok (.getfield 7, 3) := by decide +kernel
theorem dX7_isWant_7 : decode cX7_isWant 7 = .ok (.bipush 25, 2) := by decide +kernel
theorem dX7_isWant_9 : decode cX7_isWant 9 = .ok (.iaload, 1) := by decide +kernel
theorem dX7_isWant_10 : decode cX7_isWant 10 = .ok (.iconst 1, 1) := by decide +kernel
theorem dX7_isWant_11 : decode cX7_isWant 11 = .ok (.isub, 1) := by decide +kernel
theorem dX7_isWant_12 : decode cX7_isWant 12 = .ok (.i2l, 1) := by decide +kernel
theorem dX7_isWant_13 : decode cX7_isWant 13 = .ok (.invokestatic 56, 3) := by decide +kernel
theorem dX7_isWant_16 : decode cX7_isWant 16 = .ok (.ireturn, 1) := by decide +kernel
theorem dX7_placeOn_0 : decode cX7_placeOn 0 = .ok (.iconst 0, 1) := by decide +kernel
theorem dX7_placeOn_1 : decode cX7_placeOn 1 = .ok (.istore 4, 2) := by decide +kernel
theorem dX7_placeOn_3 : decode cX7_placeOn 3 = .ok (.iconst 0, 1) := by decide +kernel
theorem dX7_placeOn_4 : decode cX7_placeOn 4 = .ok (.istore 5, 2) := by decide +kernel
theorem dX7_placeOn_6 : decode cX7_placeOn 6 = .ok (.iload 5, 2) := by decide +kernel
theorem dX7_placeOn_8 : decode cX7_placeOn 8 = .ok (.aload_n 0, 1) := by decide +kernel
theorem dX7_placeOn_9 : decode cX7_placeOn 9 = .ok (.getfield 13, 3) := by decide +kernel
theorem dX7_placeOn_12 : decode cX7_placeOn 12 = .ok (.if_icmp .ge 39, 3) := by decide +kernel
theorem dX7_placeOn_15 : decode cX7_placeOn 15 = .ok (.aload_n 0, 1) := by decide +kernel
theorem dX7_placeOn_16 : decode cX7_placeOn 16 = .ok (.getfield 7, 3) := by decide +kernel
theorem dX7_placeOn_19 : decode cX7_placeOn 19 = .ok (.iload_n 1, 1) := by decide +kernel
theorem dX7_placeOn_20 : decode cX7_placeOn 20 = .ok (.bipush 27, 2) := by decide +kernel
theorem dX7_placeOn_22 : decode cX7_placeOn 22 = .ok (.iadd, 1) := by decide +kernel
theorem dX7_placeOn_23 : decode cX7_placeOn 23 = .ok (.bipush 6, 2) := by decide +kernel
theorem dX7_placeOn_25 : decode cX7_placeOn 25 = .ok (.iload_n 2, 1) := by decide +kernel
theorem dX7_placeOn_26 : decode cX7_placeOn 26 = .ok (.imul, 1) := by decide +kernel
theorem dX7_placeOn_27 : decode cX7_placeOn 27 = .ok (.iadd, 1) := by decide +kernel
theorem dX7_placeOn_28 : decode cX7_placeOn 28 = .ok (.iload 5, 2) := by decide +kernel
theorem dX7_placeOn_30 : decode cX7_placeOn 30 = .ok (.iadd, 1) := by decide +kernel
theorem dX7_placeOn_31 : decode cX7_placeOn 31 = .ok (.iaload, 1) := by decide +kernel
theorem dX7_placeOn_32 : decode cX7_placeOn 32 = .ok (.iload_n 3, 1) := by decide +kernel
theorem dX7_placeOn_33 : decode cX7_placeOn 33 = .ok (.if_icmp .ne 8, 3) := by decide +kernel
theorem dX7_placeOn_36 : decode cX7_placeOn 36 = .ok (.iload 5, 2) := by decide +kernel
theorem dX7_placeOn_38 : decode cX7_placeOn 38 = .ok (.goto 5, 3) := by decide +kernel
theorem dX7_placeOn_41 : decode cX7_placeOn 41 = .ok (.iload 4, 2) := by decide +kernel
theorem dX7_placeOn_43 : decode cX7_placeOn 43 = .ok (.istore 4, 2) := by decide +kernel
theorem dX7_placeOn_45 : decode cX7_placeOn 45 = .ok (.iinc 5 1, 3) := by decide +kernel
theorem dX7_placeOn_48 : decode cX7_placeOn 48 = .ok (.goto (-42), 3) := by decide +kernel
theorem dX7_placeOn_51 : decode cX7_placeOn 51 = .ok (.iload 4, 2) := by decide +kernel
theorem dX7_placeOn_53 : decode cX7_placeOn 53 = .ok (.ireturn, 1) := by decide +kernel
theorem dX7_standsOn_0 : decode cX7_standsOn 0 = .ok (.iload_n 1, 1) := by decide +kernel
theorem dX7_standsOn_1 : decode cX7_standsOn 1 = .ok (.bipush 27, 2) := by decide +kernel
theorem dX7_standsOn_3 : decode cX7_standsOn 3 = .ok (.iadd, 1) := by decide +kernel
theorem dX7_standsOn_4 : decode cX7_standsOn 4 = .ok (.bipush 6, 2) := by decide +kernel
theorem dX7_standsOn_6 : decode cX7_standsOn 6 = .ok (.iload_n 2, 1) := by decide +kernel
theorem dX7_standsOn_7 : decode cX7_standsOn 7 = .ok (.imul, 1) := by decide +kernel
theorem dX7_standsOn_8 : decode cX7_standsOn 8 = .ok (.iadd, 1) := by decide +kernel
theorem dX7_standsOn_9 : decode cX7_standsOn 9 = .ok (.istore 5, 2) := by decide +kernel
theorem dX7_standsOn_11 : decode cX7_standsOn 11 = .ok (.aload_n 0, 1) := by decide +kernel
theorem dX7_standsOn_12 : decode cX7_standsOn 12 = .ok (.getfield 7, 3) := by decide +kernel
theorem dX7_standsOn_15 : decode cX7_standsOn 15 = .ok (.iload 5, 2) := by decide +kernel
theorem dX7_standsOn_17 : decode cX7_standsOn 17 = .ok (.iload_n 3, 1) := by decide +kernel
theorem dX7_standsOn_18 : decode cX7_standsOn 18 = .ok (.iadd, 1) := by decide +kernel
theorem dX7_standsOn_19 : decode cX7_standsOn 19 = .ok (.iaload, 1) := by decide +kernel
theorem dX7_standsOn_20 : decode cX7_standsOn 20 = .ok (.istore 6, 2) := by decide +kernel
theorem dX7_standsOn_22 : decode cX7_standsOn 22 = .ok (.iload_n 3, 1) := by decide +kernel
theorem dX7_standsOn_23 : decode cX7_standsOn 23 = .ok (.istore 7, 2) := by decide +kernel
theorem dX7_standsOn_25 : decode cX7_standsOn 25 = .ok (.iload 7, 2) := by decide +kernel
theorem dX7_standsOn_27 : decode cX7_standsOn 27 = .ok (.iload 4, 2) := by decide +kernel
theorem dX7_standsOn_29 : decode cX7_standsOn 29 = .ok (.if_icmp .le 31, 3) := by decide +kernel
theorem dX7_standsOn_32 : decode cX7_standsOn 32 = .ok (.aload_n 0, 1) := by decide +kernel
theorem dX7_standsOn_33 : decode cX7_standsOn 33 = .ok (.getfield 7, 3) := by decide +kernel
theorem dX7_standsOn_36 : decode cX7_standsOn 36 = .ok (.iload 5, 2) := by decide +kernel
theorem dX7_standsOn_38 : decode cX7_standsOn 38 = .ok (.iload 7, 2) := by decide +kernel
theorem dX7_standsOn_40 : decode cX7_standsOn 40 = .ok (.iadd, 1) := by decide +kernel
theorem dX7_standsOn_41 : decode cX7_standsOn 41 = .ok (.aload_n 0, 1) := by decide +kernel
theorem dX7_standsOn_42 : decode cX7_standsOn 42 = .ok (.getfield 7, 3) := by decide +kernel
theorem dX7_standsOn_45 : decode cX7_standsOn 45 = .ok (.iload 5, 2) := by decide +kernel
theorem dX7_standsOn_47 : decode cX7_standsOn 47 = .ok (.iload 7, 2) := by decide +kernel
theorem dX7_standsOn_49 : decode cX7_standsOn 49 = .ok (.iadd, 1) := by decide +kernel
theorem dX7_standsOn_50 : decode cX7_standsOn 50 = .ok (.iconst 1, 1) := by decide +kernel
theorem dX7_standsOn_51 : decode cX7_standsOn 51 = .ok (.isub, 1) := by decide +kernel
theorem dX7_standsOn_52 : decode cX7_standsOn 52 = .ok (.iaload, 1) := by decide +kernel
theorem dX7_standsOn_53 : decode cX7_standsOn 53 = .ok (.iastore, 1) := by decide +kernel
theorem dX7_standsOn_54 : decode cX7_standsOn 54 = .ok (.iinc 7 (-1), 3) := by decide +kernel
theorem dX7_standsOn_57 : decode cX7_standsOn 57 = .ok (.goto (-32), 3) := by decide +kernel
theorem dX7_standsOn_60 : decode cX7_standsOn 60 = .ok (.iload_n 3, 1) := by decide +kernel
theorem dX7_standsOn_61 : decode cX7_standsOn 61 = .ok (.istore 7, 2) := by decide +kernel
theorem dX7_standsOn_63 : decode cX7_standsOn 63 = .ok (.iload 7, 2) := by decide +kernel
theorem dX7_standsOn_65 : decode cX7_standsOn 65 = .ok (.iload 4, 2) := by decide +kernel
theorem dX7_standsOn_67 : decode cX7_standsOn 67 = .ok (.if_icmp .ge 31, 3) := by decide +kernel
theorem dX7_standsOn_70 : decode cX7_standsOn 70 = .ok (.aload_n 0, 1) := by decide +kernel
theorem dX7_standsOn_71 : decode cX7_standsOn 71 = .ok (.getfield 7, 3) := by decide +kernel
theorem dX7_standsOn_74 : decode cX7_standsOn 74 = .ok (.iload 5, 2) := by decide +kernel
theorem dX7_standsOn_76 : decode cX7_standsOn 76 = .ok (.iload 7, 2) := by decide +kernel
theorem dX7_standsOn_78 : decode cX7_standsOn 78 = .ok (.iadd, 1) := by decide +kernel
theorem dX7_standsOn_79 : decode cX7_standsOn 79 = .ok (.aload_n 0, 1) := by decide +kernel
theorem dX7_standsOn_80 : decode cX7_standsOn 80 = .ok (.getfield 7, 3) := by decide +kernel
theorem dX7_standsOn_83 : decode cX7_standsOn 83 = .ok (.iload 5, 2) := by decide +kernel
theorem dX7_standsOn_85 : decode cX7_standsOn 85 = .ok (.iload 7, 2) := by decide +kernel
theorem dX7_standsOn_87 : decode cX7_standsOn 87 = .ok (.iadd, 1) := by decide +kernel
theorem dX7_standsOn_88 : decode cX7_standsOn 88 = .ok (.iconst 1, 1) := by decide +kernel
theorem dX7_standsOn_89 : decode cX7_standsOn 89 = .ok (.iadd, 1) := by decide +kernel
theorem dX7_standsOn_90 : decode cX7_standsOn 90 = .ok (.iaload, 1) := by decide +kernel
theorem dX7_standsOn_91 : decode cX7_standsOn 91 = .ok (.iastore, 1) := by decide +kernel
theorem dX7_standsOn_92 : decode cX7_standsOn 92 = .ok (.iinc 7 1, 3) := by decide +kernel
theorem dX7_standsOn_95 : decode cX7_standsOn 95 = .ok (.goto (-32), 3) := by decide +kernel
theorem dX7_standsOn_98 : decode cX7_standsOn 98 = .ok (.aload_n 0, 1) := by decide +kernel
theorem dX7_standsOn_99 : decode cX7_standsOn 99 = .ok (.getfield 7, 3) := by decide +kernel
theorem dX7_standsOn_102 : decode cX7_standsOn 102 = .ok (.iload 5, 2) := by decide +kernel
theorem dX7_standsOn_104 : decode cX7_standsOn 104 = .ok (.iload 4, 2) := by decide +kernel
theorem dX7_standsOn_106 : decode cX7_standsOn 106 = .ok (.iadd, 1) := by decide +kernel
theorem dX7_standsOn_107 : decode cX7_standsOn 107 = .ok (.iload 6, 2) := by decide +kernel
theorem dX7_standsOn_109 : decode cX7_standsOn 109 = .ok (.iastore, 1) := by decide +kernel
theorem dX7_standsOn_110 : decode cX7_standsOn 110 = .ok (.return_, 1) := by decide +kernel
theorem dX7_goalOn_0 : decode cX7_goalOn 0 = .ok (.aload_n 0, 1) := by decide +kernel
theorem dX7_goalOn_1 : decode cX7_goalOn 1 = .ok (.getfield 7, 3) := by decide +kernel
theorem dX7_goalOn_4 : decode cX7_goalOn 4 = .ok (.iload_n 1, 1) := by decide +kernel
theorem dX7_goalOn_5 : decode cX7_goalOn 5 = .ok (.iload_n 2, 1) := by decide +kernel
theorem dX7_goalOn_6 : decode cX7_goalOn 6 = .ok (.iadd, 1) := by decide +kernel
theorem dX7_goalOn_7 : decode cX7_goalOn 7 = .ok (.iaload, 1) := by decide +kernel
theorem dX7_goalOn_8 : decode cX7_goalOn 8 = .ok (.istore 4, 2) := by decide +kernel
theorem dX7_goalOn_10 : decode cX7_goalOn 10 = .ok (.iload 4, 2) := by decide +kernel
theorem dX7_goalOn_12 : decode cX7_goalOn 12 = .ok (.ifCond .eq 7, 3) := by decide +kernel
theorem dX7_goalOn_15 : decode cX7_goalOn 15 = .ok (.iload_n 3, 1) := by decide +kernel
theorem dX7_goalOn_16 : decode cX7_goalOn 16 = .ok (.ifCond .ne 5, 3) := by decide +kernel
theorem dX7_goalOn_19 : decode cX7_goalOn 19 = .ok (.iload_n 3, 1) := by decide +kernel
theorem dX7_goalOn_20 : decode cX7_goalOn 20 = .ok (.ireturn, 1) := by decide +kernel
theorem dX7_goalOn_21 : decode cX7_goalOn 21 = .ok (.iload 4, 2) := by decide +kernel
theorem dX7_goalOn_23 : decode cX7_goalOn 23 = .ok (.iconst 3, 1) := by decide +kernel
theorem dX7_goalOn_24 : decode cX7_goalOn 24 = .ok (.if_icmp .ge 17, 3) := by decide +kernel
theorem dX7_goalOn_27 : decode cX7_goalOn 27 = .ok (.iload 4, 2) := by decide +kernel
theorem dX7_goalOn_29 : decode cX7_goalOn 29 = .ok (.iconst 1, 1) := by decide +kernel
theorem dX7_goalOn_30 : decode cX7_goalOn 30 = .ok (.if_icmp .ne 9, 3) := by decide +kernel
theorem dX7_goalOn_33 : decode cX7_goalOn 33 = .ok (.iload_n 3, 1) := by decide +kernel
theorem dX7_goalOn_34 : decode cX7_goalOn 34 = .ok (.iconst 1, 1) := by decide +kernel
theorem dX7_goalOn_35 : decode cX7_goalOn 35 = .ok (.isub, 1) := by decide +kernel
theorem dX7_goalOn_36 : decode cX7_goalOn 36 = .ok (.goto 4, 3) := by decide +kernel
theorem dX7_goalOn_39 : decode cX7_goalOn 39 = .ok (.iconst 0, 1) := by decide +kernel
theorem dX7_goalOn_40 : decode cX7_goalOn 40 = .ok (.ireturn, 1) := by decide +kernel
theorem dX7_goalOn_41 : decode cX7_goalOn 41 = .ok (.iload_n 1, 1) := by decide +kernel
theorem dX7_goalOn_42 : decode cX7_goalOn 42 = .ok (.bipush 51, 2) := by decide +kernel
theorem dX7_goalOn_44 : decode cX7_goalOn 44 = .ok (.iadd, 1) := by decide +kernel
theorem dX7_goalOn_45 : decode cX7_goalOn 45 = .ok (.bipush 6, 2) := by decide +kernel
theorem dX7_goalOn_47 : decode cX7_goalOn 47 = .ok (.iload_n 2, 1) := by decide +kernel
theorem dX7_goalOn_48 : decode cX7_goalOn 48 = .ok (.imul, 1) := by decide +kernel
theorem dX7_goalOn_49 : decode cX7_goalOn 49 = .ok (.iadd, 1) := by decide +kernel
theorem dX7_goalOn_50 : decode cX7_goalOn 50 = .ok (.istore 5, 2) := by decide +kernel
theorem dX7_goalOn_52 : decode cX7_goalOn 52 = .ok (.iload_n 1, 1) := by decide +kernel
theorem dX7_goalOn_53 : decode cX7_goalOn 53 = .ok (.bipush 27, 2) := by decide +kernel
theorem dX7_goalOn_55 : decode cX7_goalOn 55 = .ok (.iadd, 1) := by decide +kernel
theorem dX7_goalOn_56 : decode cX7_goalOn 56 = .ok (.bipush 6, 2) := by decide +kernel
theorem dX7_goalOn_58 : decode cX7_goalOn 58 = .ok (.iload_n 2, 1) := by decide +kernel
theorem dX7_goalOn_59 : decode cX7_goalOn 59 = .ok (.imul, 1) := by decide +kernel
theorem dX7_goalOn_60 : decode cX7_goalOn 60 = .ok (.iadd, 1) := by decide +kernel
theorem dX7_goalOn_61 : decode cX7_goalOn 61 = .ok (.istore 6, 2) := by decide +kernel
theorem dX7_goalOn_63 : decode cX7_goalOn 63 = .ok (.iconst 0, 1) := by decide +kernel
theorem dX7_goalOn_64 : decode cX7_goalOn 64 = .ok (.istore 7, 2) := by decide +kernel
theorem dX7_goalOn_66 : decode cX7_goalOn 66 = .ok (.iload 7, 2) := by decide +kernel
theorem dX7_goalOn_68 : decode cX7_goalOn 68 = .ok (.iload_n 3, 1) := by decide +kernel
theorem dX7_goalOn_69 : decode cX7_goalOn 69 = .ok (.if_icmp .ge 50, 3) := by decide +kernel
theorem dX7_goalOn_72 : decode cX7_goalOn 72 = .ok (.aload_n 0, 1) := by decide +kernel
theorem dX7_goalOn_73 : decode cX7_goalOn 73 = .ok (.getfield 7, 3) := by decide +kernel
theorem dX7_goalOn_76 : decode cX7_goalOn 76 = .ok (.iload 5, 2) := by decide +kernel
theorem dX7_goalOn_78 : decode cX7_goalOn 78 = .ok (.aload_n 0, 1) := by decide +kernel
theorem dX7_goalOn_79 : decode cX7_goalOn 79 = .ok (.getfield 7, 3) := by decide +kernel
theorem dX7_goalOn_82 : decode cX7_goalOn 82 = .ok (.iload 6, 2) := by decide +kernel
theorem dX7_goalOn_84 : decode cX7_goalOn 84 = .ok (.iload 7, 2) := by decide +kernel
theorem dX7_goalOn_86 : decode cX7_goalOn 86 = .ok (.iadd, 1) := by decide +kernel
theorem dX7_goalOn_87 : decode cX7_goalOn 87 = .ok (.iaload, 1) := by decide +kernel
theorem dX7_goalOn_88 : decode cX7_goalOn 88 = .ok (.iadd, 1) := by decide +kernel
theorem dX7_goalOn_89 : decode cX7_goalOn 89 = .ok (.iaload, 1) := by decide +kernel
theorem dX7_goalOn_90 : decode cX7_goalOn 90 = .ok (.aload_n 0, 1) := by decide +kernel
theorem dX7_goalOn_91 : decode cX7_goalOn 91 = .ok (.getfield 7, 3) := by decide +kernel
theorem dX7_goalOn_94 : decode cX7_goalOn 94 = .ok (.iload 5, 2) := by decide +kernel
theorem dX7_goalOn_96 : decode cX7_goalOn 96 = .ok (.aload_n 0, 1) := by decide +kernel
theorem dX7_goalOn_97 : decode cX7_goalOn 97 = .ok (.getfield 7, 3) := by decide +kernel
theorem dX7_goalOn_100 : decode cX7_goalOn 100 = .ok (.iload 6, 2) := by decide +kernel
theorem dX7_goalOn_102 : decode cX7_goalOn 102 = .ok (.iload_n 3, 1) := by decide +kernel
theorem dX7_goalOn_103 : decode cX7_goalOn 103 = .ok (.iadd, 1) := by decide +kernel
theorem dX7_goalOn_104 : decode cX7_goalOn 104 = .ok (.iaload, 1) := by decide +kernel
theorem dX7_goalOn_105 : decode cX7_goalOn 105 = .ok (.iadd, 1) := by decide +kernel
theorem dX7_goalOn_106 : decode cX7_goalOn 106 = .ok (.iaload, 1) := by decide +kernel
theorem dX7_goalOn_107 : decode cX7_goalOn 107 = .ok (.if_icmp .ge 6, 3) := by decide +kernel
theorem dX7_goalOn_110 : decode cX7_goalOn 110 = .ok (.iload 7, 2) := by decide +kernel
theorem dX7_goalOn_112 : decode cX7_goalOn 112 = .ok (.ireturn, 1) := by decide +kernel
theorem dX7_goalOn_113 : decode cX7_goalOn 113 = .ok (.iinc 7 1, 3) := by decide +kernel
theorem dX7_goalOn_116 : decode cX7_goalOn 116 = .ok (.goto (-50), 3) := by decide +kernel
theorem dX7_goalOn_119 : decode cX7_goalOn 119 = .ok (.iload_n 3, 1) := by decide +kernel
theorem dX7_goalOn_120 : decode cX7_goalOn 120 = .ok (.ireturn, 1) := by decide +kernel
theorem dX7_starts_0 : decode cX7_starts 0 = .ok (.iconst 0, 1) := by decide +kernel
theorem dX7_starts_1 : decode cX7_starts 1 = .ok (.istore_n 1, 1) := by decide +kernel
theorem dX7_starts_2 : decode cX7_starts 2 = .ok (.iload_n 1, 1) := by decide +kernel
theorem dX7_starts_3 : decode cX7_starts 3 = .ok (.iconst 4, 1) := by decide +kernel
theorem dX7_starts_4 : decode cX7_starts 4 = .ok (.if_icmp .ge 16, 3) := by decide +kernel
theorem dX7_starts_7 : decode cX7_starts 7 = .ok (.aload_n 0, 1) := by decide +kernel
theorem dX7_starts_8 : decode cX7_starts 8 = .ok (.getfield 29, 3) := by decide +kernel
theorem dX7_starts_11 : decode cX7_starts 11 = .ok (.iload_n 1, 1) := by decide +kernel
theorem dX7_starts_12 : decode cX7_starts 12 = .ok (.iconst 0, 1) := by decide +kernel
theorem dX7_starts_13 : decode cX7_starts 13 = .ok (.iastore, 1) := by decide +kernel
theorem dX7_starts_14 : decode cX7_starts 14 = .ok (.iinc 1 1, 3) := by decide +kernel
theorem dX7_starts_17 : decode cX7_starts 17 = .ok (.goto (-15), 3) := by decide +kernel
theorem dX7_starts_20 : decode cX7_starts 20 = .ok (.aload_n 0, 1) := by decide +kernel
theorem dX7_starts_21 : decode cX7_starts 21 = .ok (.iconst 0, 1) := by decide +kernel
theorem dX7_starts_22 : decode cX7_starts 22 = .ok (.putfield 138, 3) := by decide +kernel
theorem dX7_starts_25 : decode cX7_starts 25 = .ok (.aload_n 0, 1) := by decide +kernel
theorem dX7_starts_26 : decode cX7_starts 26 = .ok (.iconst 0, 1) := by decide +kernel
theorem dX7_starts_27 : decode cX7_starts 27 = .ok (.putfield 141, 3) := by decide +kernel
theorem dX7_starts_30 : decode cX7_starts 30 = .ok (.return_, 1) := by decide +kernel
theorem dX7_asksOn_0 : decode cX7_asksOn 0 = .ok (.iconst 0, 1) := by decide +kernel
theorem dX7_asksOn_1 : decode cX7_asksOn 1 = .ok (.istore_n 3, 1) := by decide +kernel
theorem dX7_asksOn_2 : decode cX7_asksOn 2 = .ok (.iconst 0, 1) := by decide +kernel
theorem dX7_asksOn_3 : decode cX7_asksOn 3 = .ok (.istore 4, 2) := by decide +kernel
theorem dX7_asksOn_5 : decode cX7_asksOn 5 = .ok (.iload 4, 2) := by decide +kernel
theorem dX7_asksOn_7 : decode cX7_asksOn 7 = .ok (.aload_n 0, 1) := by decide +kernel
theorem dX7_asksOn_8 : decode cX7_asksOn 8 = .ok (.getfield 7, 3) := by decide +kernel
theorem dX7_asksOn_11 : decode cX7_asksOn 11 = .ok (.iload_n 1, 1) := by decide +kernel
theorem dX7_asksOn_12 : decode cX7_asksOn 12 = .ok (.bipush 8, 2) := by decide +kernel
theorem dX7_asksOn_14 : decode cX7_asksOn 14 = .ok (.iadd, 1) := by decide +kernel
theorem dX7_asksOn_15 : decode cX7_asksOn 15 = .ok (.iaload, 1) := by decide +kernel
theorem dX7_asksOn_16 : decode cX7_asksOn 16 = .ok (.if_icmp .ge 213, 3) := by decide +kernel
theorem dX7_asksOn_19 : decode cX7_asksOn 19 = .ok (.aload_n 0, 1) := by decide +kernel
theorem dX7_asksOn_20 : decode cX7_asksOn 20 = .ok (.iload_n 1, 1) := by decide +kernel
theorem dX7_asksOn_21 : decode cX7_asksOn 21 = .ok (.iload 4, 2) := by decide +kernel
theorem dX7_asksOn_23 : decode cX7_asksOn 23 = .ok (.iload_n 2, 1) := by decide +kernel
theorem dX7_asksOn_24 : decode cX7_asksOn 24 = .ok (.invokevirtual 144, 3) := by decide +kernel
theorem dX7_asksOn_27 : decode cX7_asksOn 27 = .ok (.istore 5, 2) := by decide +kernel
theorem dX7_asksOn_29 : decode cX7_asksOn 29 = .ok (.iload 5, 2) := by decide +kernel
theorem dX7_asksOn_31 : decode cX7_asksOn 31 = .ok (.iconst 1, 1) := by decide +kernel
theorem dX7_asksOn_32 : decode cX7_asksOn 32 = .ok (.iadd, 1) := by decide +kernel
theorem dX7_asksOn_33 : decode cX7_asksOn 33 = .ok (.aload_n 0, 1) := by decide +kernel
theorem dX7_asksOn_34 : decode cX7_asksOn 34 = .ok (.getfield 7, 3) := by decide +kernel
theorem dX7_asksOn_37 : decode cX7_asksOn 37 = .ok (.iload_n 1, 1) := by decide +kernel
theorem dX7_asksOn_38 : decode cX7_asksOn 38 = .ok (.iload 4, 2) := by decide +kernel
theorem dX7_asksOn_40 : decode cX7_asksOn 40 = .ok (.iadd, 1) := by decide +kernel
theorem dX7_asksOn_41 : decode cX7_asksOn 41 = .ok (.iaload, 1) := by decide +kernel
theorem dX7_asksOn_42 : decode cX7_asksOn 42 = .ok (.iconst 2, 1) := by decide +kernel
theorem dX7_asksOn_43 : decode cX7_asksOn 43 = .ok (.if_icmp .ne 12, 3) := by decide +kernel
theorem dX7_asksOn_46 : decode cX7_asksOn 46 = .ok (.iload 5, 2) := by decide +kernel
theorem dX7_asksOn_48 : decode cX7_asksOn 48 = .ok (.ifCond .le 7, 3) := by decide +kernel
theorem dX7_asksOn_51 : decode cX7_asksOn 51 = .ok (.iconst 1, 1) := by decide +kernel
theorem dX7_asksOn_52 : decode cX7_asksOn 52 = .ok (.goto 4, 3) := by decide +kernel
theorem dX7_asksOn_55 : decode cX7_asksOn 55 = .ok (.iconst 0, 1) := by decide +kernel
theorem dX7_asksOn_56 : decode cX7_asksOn 56 = .ok (.iadd, 1) := by decide +kernel
theorem dX7_asksOn_57 : decode cX7_asksOn 57 = .ok (.istore 6, 2) := by decide +kernel
theorem dX7_asksOn_59 : decode cX7_asksOn 59 = .ok (.aload_n 0, 1) := by decide +kernel
theorem dX7_asksOn_60 : decode cX7_asksOn 60 = .ok (.getfield 7, 3) := by decide +kernel
theorem dX7_asksOn_63 : decode cX7_asksOn 63 = .ok (.iload_n 1, 1) := by decide +kernel
theorem dX7_asksOn_64 : decode cX7_asksOn 64 = .ok (.iconst 4, 1) := by decide +kernel
theorem dX7_asksOn_65 : decode cX7_asksOn 65 = .ok (.iadd, 1) := by decide +kernel
theorem dX7_asksOn_66 : decode cX7_asksOn 66 = .ok (.iload 4, 2) := by decide +kernel
theorem dX7_asksOn_68 : decode cX7_asksOn 68 = .ok (.iadd, 1) := by decide +kernel
theorem dX7_asksOn_69 : decode cX7_asksOn 69 = .ok (.iaload, 1) := by decide +kernel
theorem dX7_asksOn_70 : decode cX7_asksOn 70 = .ok (.iload 6, 2) := by decide +kernel
theorem dX7_asksOn_72 : decode cX7_asksOn 72 = .ok (.iadd, 1) := by decide +kernel
theorem dX7_asksOn_73 : decode cX7_asksOn 73 = .ok (.istore 7, 2) := by decide +kernel
theorem dX7_asksOn_75 : decode cX7_asksOn 75 = .ok (.aload_n 0, 1) := by decide +kernel
theorem dX7_asksOn_76 : decode cX7_asksOn 76 = .ok (.getfield 7, 3) := by decide +kernel
theorem dX7_asksOn_79 : decode cX7_asksOn 79 = .ok (.iload_n 1, 1) := by decide +kernel
theorem dX7_asksOn_80 : decode cX7_asksOn 80 = .ok (.iconst 4, 1) := by decide +kernel
theorem dX7_asksOn_81 : decode cX7_asksOn 81 = .ok (.iadd, 1) := by decide +kernel
theorem dX7_asksOn_82 : decode cX7_asksOn 82 = .ok (.iload 4, 2) := by decide +kernel
theorem dX7_asksOn_84 : decode cX7_asksOn 84 = .ok (.iadd, 1) := by decide +kernel
theorem dX7_asksOn_85 : decode cX7_asksOn 85 = .ok (.iload 7, 2) := by decide +kernel
theorem dX7_asksOn_87 : decode cX7_asksOn 87 = .ok (.ldc 148, 2) := by decide +kernel
theorem dX7_asksOn_89 : decode cX7_asksOn 89 = .ok (.if_icmp .le 8, 3) := by decide +kernel
theorem dX7_asksOn_92 : decode cX7_asksOn 92 = .ok (.ldc 148, 2) := by decide +kernel
theorem dX7_asksOn_94 : decode cX7_asksOn 94 = .ok (.goto 5, 3) := by decide +kernel
theorem dX7_asksOn_97 : decode cX7_asksOn 97 = .ok (.iload 7, 2) := by decide +kernel
theorem dX7_asksOn_99 : decode cX7_asksOn 99 = .ok (.iastore, 1) := by decide +kernel
theorem dX7_asksOn_100 : decode cX7_asksOn 100 = .ok (.iload_n 1, 1) := by decide +kernel
theorem dX7_asksOn_101 : decode cX7_asksOn 101 = .ok (.bipush 51, 2) := by decide +kernel
theorem dX7_asksOn_103 : decode cX7_asksOn 103 = .ok (.iadd, 1) := by decide +kernel
theorem dX7_asksOn_104 : decode cX7_asksOn 104 = .ok (.bipush 6, 2) := by decide +kernel
theorem dX7_asksOn_106 : decode cX7_asksOn 106 = .ok (.iload 4, 2) := by decide +kernel
theorem dX7_asksOn_108 : decode cX7_asksOn 108 = .ok (.imul, 1) := by decide +kernel
theorem dX7_asksOn_109 : decode cX7_asksOn 109 = .ok (.iadd, 1) := by decide +kernel
theorem dX7_asksOn_110 : decode cX7_asksOn 110 = .ok (.iload_n 2, 1) := by decide +kernel
theorem dX7_asksOn_111 : decode cX7_asksOn 111 = .ok (.iadd, 1) := by decide +kernel
theorem dX7_asksOn_112 : decode cX7_asksOn 112 = .ok (.istore 8, 2) := by decide +kernel
theorem dX7_asksOn_114 : decode cX7_asksOn 114 = .ok (.aload_n 0, 1) := by decide +kernel
theorem dX7_asksOn_115 : decode cX7_asksOn 115 = .ok (.getfield 7, 3) := by decide +kernel
theorem dX7_asksOn_118 : decode cX7_asksOn 118 = .ok (.iload 8, 2) := by decide +kernel
theorem dX7_asksOn_120 : decode cX7_asksOn 120 = .ok (.dup2, 1) := by decide +kernel
theorem dX7_asksOn_121 : decode cX7_asksOn 121 = .ok (.iaload, 1) := by decide +kernel
theorem dX7_asksOn_122 : decode cX7_asksOn 122 = .ok (.aload_n 0, 1) := by decide +kernel
theorem dX7_asksOn_123 : decode cX7_asksOn 123 = .ok (.getfield 7, 3) := by decide +kernel
theorem dX7_asksOn_126 : decode cX7_asksOn 126 = .ok (.iload 8, 2) := by decide +kernel
theorem dX7_asksOn_128 : decode cX7_asksOn 128 = .ok (.iaload, 1) := by decide +kernel
theorem dX7_asksOn_129 : decode cX7_asksOn 129 = .ok (.bipush 99, 2) := by decide +kernel
theorem dX7_asksOn_131 : decode cX7_asksOn 131 = .ok (.if_icmp .ge 7, 3) := by decide +kernel
theorem dX7_asksOn_134 : decode cX7_asksOn 134 = .ok (.iconst 1, 1) := by decide +kernel
theorem dX7_asksOn_135 : decode cX7_asksOn 135 = .ok (.goto 4, 3) := by decide +kernel
theorem dX7_asksOn_138 : decode cX7_asksOn 138 = .ok (.iconst 0, 1) := by decide +kernel
theorem dX7_asksOn_139 : decode cX7_asksOn 139 = .ok (.iadd, 1) := by decide +kernel
theorem dX7_asksOn_140 : decode cX7_asksOn 140 = .ok (.iastore, 1) := by decide +kernel
theorem dX7_asksOn_141 : decode cX7_asksOn 141 = .ok (.aload_n 0, 1) := by decide +kernel
theorem dX7_asksOn_142 : decode cX7_asksOn 142 = .ok (.iload_n 1, 1) := by decide +kernel
theorem dX7_asksOn_143 : decode cX7_asksOn 143 = .ok (.iload 4, 2) := by decide +kernel
theorem dX7_asksOn_145 : decode cX7_asksOn 145 = .ok (.iload 5, 2) := by decide +kernel
theorem dX7_asksOn_147 : decode cX7_asksOn 147 = .ok (.invokevirtual 149, 3) := by decide +kernel
theorem dX7_asksOn_150 : decode cX7_asksOn 150 = .ok (.istore 9, 2) := by decide +kernel
theorem dX7_asksOn_152 : decode cX7_asksOn 152 = .ok (.aload_n 0, 1) := by decide +kernel
theorem dX7_asksOn_153 : decode cX7_asksOn 153 = .ok (.iload_n 1, 1) := by decide +kernel
theorem dX7_asksOn_154 : decode cX7_asksOn 154 = .ok (.iload 4, 2) := by decide +kernel
theorem dX7_asksOn_156 : decode cX7_asksOn 156 = .ok (.iload 5, 2) := by decide +kernel
theorem dX7_asksOn_158 : decode cX7_asksOn 158 = .ok (.iload 9, 2) := by decide +kernel
theorem dX7_asksOn_160 : decode cX7_asksOn 160 = .ok (.invokevirtual 152, 3) := by decide +kernel
theorem dX7_asksOn_163 : decode cX7_asksOn 163 = .ok (.aload_n 0, 1) := by decide +kernel
theorem dX7_asksOn_164 : decode cX7_asksOn 164 = .ok (.getfield 29, 3) := by decide +kernel
theorem dX7_asksOn_167 : decode cX7_asksOn 167 = .ok (.iload 4, 2) := by decide +kernel
theorem dX7_asksOn_169 : decode cX7_asksOn 169 = .ok (.dup2, 1) := by decide +kernel
theorem dX7_asksOn_170 : decode cX7_asksOn 170 = .ok (.iaload, 1) := by decide +kernel
theorem dX7_asksOn_171 : decode cX7_asksOn 171 = .ok (.iload 6, 2) := by decide +kernel
theorem dX7_asksOn_173 : decode cX7_asksOn 173 = .ok (.iadd, 1) := by decide +kernel
theorem dX7_asksOn_174 : decode cX7_asksOn 174 = .ok (.iastore, 1) := by decide +kernel
theorem dX7_asksOn_175 : decode cX7_asksOn 175 = .ok (.aload_n 0, 1) := by decide +kernel
theorem dX7_asksOn_176 : decode cX7_asksOn 176 = .ok (.iload 6, 2) := by decide +kernel
theorem dX7_asksOn_178 : decode cX7_asksOn 178 = .ok (.aload_n 0, 1) := by decide +kernel
theorem dX7_asksOn_179 : decode cX7_asksOn 179 = .ok (.getfield 138, 3) := by decide +kernel
theorem dX7_asksOn_182 : decode cX7_asksOn 182 = .ok (.if_icmp .le 8, 3) := by decide +kernel
theorem dX7_asksOn_185 : decode cX7_asksOn 185 = .ok (.iload 6, 2) := by decide +kernel
theorem dX7_asksOn_187 : decode cX7_asksOn 187 = .ok (.goto 7, 3) := by decide +kernel
theorem dX7_asksOn_190 : decode cX7_asksOn 190 = .ok (.aload_n 0, 1) := by decide +kernel
theorem dX7_asksOn_191 : decode cX7_asksOn 191 = .ok (.getfield 138, 3) := by decide +kernel
theorem dX7_asksOn_194 : decode cX7_asksOn 194 = .ok (.putfield 138, 3) := by decide +kernel
theorem dX7_asksOn_197 : decode cX7_asksOn 197 = .ok (.aload_n 0, 1) := by decide +kernel
theorem dX7_asksOn_198 : decode cX7_asksOn 198 = .ok (.dup, 1) := by decide +kernel
theorem dX7_asksOn_199 : decode cX7_asksOn 199 = .ok (.getfield 141, 3) := by decide +kernel
theorem dX7_asksOn_202 : decode cX7_asksOn 202 = .ok (.iload 9, 2) := by decide +kernel
theorem dX7_asksOn_204 : decode cX7_asksOn 204 = .ok (.iload 5, 2) := by decide +kernel
theorem dX7_asksOn_206 : decode cX7_asksOn 206 = .ok (.if_icmp .ne 7, 3) := by decide +kernel
theorem dX7_asksOn_209 : decode cX7_asksOn 209 = .ok (.iconst 0, 1) := by decide +kernel
theorem dX7_asksOn_210 : decode cX7_asksOn 210 = .ok (.goto 4, 3) := by decide +kernel
theorem dX7_asksOn_213 : decode cX7_asksOn 213 = .ok (.iconst 1, 1) := by decide +kernel
theorem dX7_asksOn_214 : decode cX7_asksOn 214 = .ok (.iadd, 1) := by decide +kernel
theorem dX7_asksOn_215 : decode cX7_asksOn 215 = .ok (.putfield 141, 3) := by decide +kernel
theorem dX7_asksOn_218 : decode cX7_asksOn 218 = .ok (.iload_n 3, 1) := by decide +kernel
theorem dX7_asksOn_219 : decode cX7_asksOn 219 = .ok (.iload 6, 2) := by decide +kernel
theorem dX7_asksOn_221 : decode cX7_asksOn 221 = .ok (.iadd, 1) := by decide +kernel
theorem dX7_asksOn_222 : decode cX7_asksOn 222 = .ok (.istore_n 3, 1) := by decide +kernel
theorem dX7_asksOn_223 : decode cX7_asksOn 223 = .ok (.iinc 4 1, 3) := by decide +kernel
theorem dX7_asksOn_226 : decode cX7_asksOn 226 = .ok (.goto (-221), 3) := by decide +kernel
theorem dX7_asksOn_229 : decode cX7_asksOn 229 = .ok (.iload_n 3, 1) := by decide +kernel
theorem dX7_asksOn_230 : decode cX7_asksOn 230 = .ok (.ireturn, 1) := by decide +kernel
theorem dX7_turnOn_0 : decode cX7_turnOn 0 = .ok (.aload_n 0, 1) := by decide +kernel
theorem dX7_turnOn_1 : decode cX7_turnOn 1 = .ok (.getfield 7, 3) := by decide +kernel
theorem dX7_turnOn_4 : decode cX7_turnOn 4 = .ok (.iload_n 1, 1) := by decide +kernel
theorem dX7_turnOn_5 : decode cX7_turnOn 5 = .ok (.bipush 25, 2) := by decide +kernel
theorem dX7_turnOn_7 : decode cX7_turnOn 7 = .ok (.iadd, 1) := by decide +kernel
theorem dX7_turnOn_8 : decode cX7_turnOn 8 = .ok (.iaload, 1) := by decide +kernel
theorem dX7_turnOn_9 : decode cX7_turnOn 9 = .ok (.ifCond .ne 8, 3) := by decide +kernel
theorem dX7_turnOn_12 : decode cX7_turnOn 12 = .ok (.bipush (-4), 2) := by decide +kernel
theorem dX7_turnOn_14 : decode cX7_turnOn 14 = .ok (.goto 22, 3) := by decide +kernel
theorem dX7_turnOn_17 : decode cX7_turnOn 17 = .ok (.aload_n 0, 1) := by decide +kernel
theorem dX7_turnOn_18 : decode cX7_turnOn 18 = .ok (.getfield 7, 3) := by decide +kernel
theorem dX7_turnOn_21 : decode cX7_turnOn 21 = .ok (.iload_n 1, 1) := by decide +kernel
theorem dX7_turnOn_22 : decode cX7_turnOn 22 = .ok (.bipush 26, 2) := by decide +kernel
theorem dX7_turnOn_24 : decode cX7_turnOn 24 = .ok (.iadd, 1) := by decide +kernel
theorem dX7_turnOn_25 : decode cX7_turnOn 25 = .ok (.iaload, 1) := by decide +kernel
theorem dX7_turnOn_26 : decode cX7_turnOn 26 = .ok (.aload_n 0, 1) := by decide +kernel
theorem dX7_turnOn_27 : decode cX7_turnOn 27 = .ok (.getfield 7, 3) := by decide +kernel
theorem dX7_turnOn_30 : decode cX7_turnOn 30 = .ok (.iload_n 1, 1) := by decide +kernel
theorem dX7_turnOn_31 : decode cX7_turnOn 31 = .ok (.bipush 25, 2) := by decide +kernel
theorem dX7_turnOn_33 : decode cX7_turnOn 33 = .ok (.iadd, 1) := by decide +kernel
theorem dX7_turnOn_34 : decode cX7_turnOn 34 = .ok (.iaload, 1) := by decide +kernel
theorem dX7_turnOn_35 : decode cX7_turnOn 35 = .ok (.irem, 1) := by decide +kernel
theorem dX7_turnOn_36 : decode cX7_turnOn 36 = .ok (.ireturn, 1) := by decide +kernel
theorem dX7_stepOn_0 : decode cX7_stepOn 0 = .ok (.aload_n 0, 1) := by decide +kernel
theorem dX7_stepOn_1 : decode cX7_stepOn 1 = .ok (.iload_n 1, 1) := by decide +kernel
theorem dX7_stepOn_2 : decode cX7_stepOn 2 = .ok (.invokevirtual 156, 3) := by decide +kernel
theorem dX7_stepOn_5 : decode cX7_stepOn 5 = .ok (.istore_n 3, 1) := by decide +kernel
theorem dX7_stepOn_6 : decode cX7_stepOn 6 = .ok (.iload_n 3, 1) := by decide +kernel
theorem dX7_stepOn_7 : decode cX7_stepOn 7 = .ok (.bipush (-4), 2) := by decide +kernel
theorem dX7_stepOn_9 : decode cX7_stepOn 9 = .ok (.if_icmp .eq 32, 3) := by decide +kernel
theorem dX7_stepOn_12 : decode cX7_stepOn 12 = .ok (.iload_n 3, 1) := by decide +kernel
theorem dX7_stepOn_13 : decode cX7_stepOn 13 = .ok (.aload_n 0, 1) := by decide +kernel
theorem dX7_stepOn_14 : decode cX7_stepOn 14 = .ok (.getfield 32, 3) := by decide +kernel
theorem dX7_stepOn_17 : decode cX7_stepOn 17 = .ok (.if_icmp .eq 24, 3) := by decide +kernel
theorem dX7_stepOn_20 : decode cX7_stepOn 20 = .ok (.iload_n 2, 1) := by decide +kernel
theorem dX7_stepOn_21 : decode cX7_stepOn 21 = .ok (.ifCond .ne 20, 3) := by decide +kernel
theorem dX7_stepOn_24 : decode cX7_stepOn 24 = .ok (.aload_n 0, 1) := by decide +kernel
theorem dX7_stepOn_25 : decode cX7_stepOn 25 = .ok (.iload_n 1, 1) := by decide +kernel
theorem dX7_stepOn_26 : decode cX7_stepOn 26 = .ok (.aload_n 0, 1) := by decide +kernel
theorem dX7_stepOn_27 : decode cX7_stepOn 27 = .ok (.getfield 7, 3) := by decide +kernel
theorem dX7_stepOn_30 : decode cX7_stepOn 30 = .ok (.iload_n 1, 1) := by decide +kernel
theorem dX7_stepOn_31 : decode cX7_stepOn 31 = .ok (.bipush 9, 2) := by decide +kernel
theorem dX7_stepOn_33 : decode cX7_stepOn 33 = .ok (.iadd, 1) := by decide +kernel
theorem dX7_stepOn_34 : decode cX7_stepOn 34 = .ok (.iload_n 3, 1) := by decide +kernel
theorem dX7_stepOn_35 : decode cX7_stepOn 35 = .ok (.iadd, 1) := by decide +kernel
theorem dX7_stepOn_36 : decode cX7_stepOn 36 = .ok (.iaload, 1) := by decide +kernel
theorem dX7_stepOn_37 : decode cX7_stepOn 37 = .ok (.invokevirtual 159, 3) := by decide +kernel
theorem dX7_stepOn_40 : decode cX7_stepOn 40 = .ok (.pop, 1) := by decide +kernel
theorem dX7_stepOn_41 : decode cX7_stepOn 41 = .ok (.aload_n 0, 1) := by decide +kernel
theorem dX7_stepOn_42 : decode cX7_stepOn 42 = .ok (.getfield 7, 3) := by decide +kernel
theorem dX7_stepOn_45 : decode cX7_stepOn 45 = .ok (.iload_n 1, 1) := by decide +kernel
theorem dX7_stepOn_46 : decode cX7_stepOn 46 = .ok (.bipush 26, 2) := by decide +kernel
theorem dX7_stepOn_48 : decode cX7_stepOn 48 = .ok (.iadd, 1) := by decide +kernel
theorem dX7_stepOn_49 : decode cX7_stepOn 49 = .ok (.dup2, 1) := by decide +kernel
theorem dX7_stepOn_50 : decode cX7_stepOn 50 = .ok (.iaload, 1) := by decide +kernel
theorem dX7_stepOn_51 : decode cX7_stepOn 51 = .ok (.iconst 1, 1) := by decide +kernel
theorem dX7_stepOn_52 : decode cX7_stepOn 52 = .ok (.iadd, 1) := by decide +kernel
theorem dX7_stepOn_53 : decode cX7_stepOn 53 = .ok (.iastore, 1) := by decide +kernel
theorem dX7_stepOn_54 : decode cX7_stepOn 54 = .ok (.return_, 1) := by decide +kernel
theorem dX7_paidAll_0 : decode cX7_paidAll 0 = .ok (.iconst 0, 1) := by decide +kernel
theorem dX7_paidAll_1 : decode cX7_paidAll 1 = .ok (.istore_n 1, 1) := by decide +kernel
theorem dX7_paidAll_2 : decode cX7_paidAll 2 = .ok (.iconst 0, 1) := by decide +kernel
theorem dX7_paidAll_3 : decode cX7_paidAll 3 = .ok (.istore_n 2, 1) := by decide +kernel
theorem dX7_paidAll_4 : decode cX7_paidAll 4 = .ok (.iload_n 2, 1) := by decide +kernel
theorem dX7_paidAll_5 : decode cX7_paidAll 5 = .ok (.iconst 4, 1) := by decide +kernel
theorem dX7_paidAll_6 : decode cX7_paidAll 6 = .ok (.if_icmp .ge 18, 3) := by decide +kernel
theorem dX7_paidAll_9 : decode cX7_paidAll 9 = .ok (.iload_n 1, 1) := by decide +kernel
theorem dX7_paidAll_10 : decode cX7_paidAll 10 = .ok (.aload_n 0, 1) := by decide +kernel
theorem dX7_paidAll_11 : decode cX7_paidAll 11 = .ok (.getfield 29, 3) := by decide +kernel
theorem dX7_paidAll_14 : decode cX7_paidAll 14 = .ok (.iload_n 2, 1) := by decide +kernel
theorem dX7_paidAll_15 : decode cX7_paidAll 15 = .ok (.iaload, 1) := by decide +kernel
theorem dX7_paidAll_16 : decode cX7_paidAll 16 = .ok (.iadd, 1) := by decide +kernel
theorem dX7_paidAll_17 : decode cX7_paidAll 17 = .ok (.istore_n 1, 1) := by decide +kernel
theorem dX7_paidAll_18 : decode cX7_paidAll 18 = .ok (.iinc 2 1, 3) := by decide +kernel
theorem dX7_paidAll_21 : decode cX7_paidAll 21 = .ok (.goto (-17), 3) := by decide +kernel
theorem dX7_paidAll_24 : decode cX7_paidAll 24 = .ok (.iload_n 1, 1) := by decide +kernel
theorem dX7_paidAll_25 : decode cX7_paidAll 25 = .ok (.ireturn, 1) := by decide +kernel
theorem dX7_cheapest_0 : decode cX7_cheapest 0 = .ok (.bipush (-4), 2) := by decide +kernel
theorem dX7_cheapest_2 : decode cX7_cheapest 2 = .ok (.istore_n 1, 1) := by decide +kernel
theorem dX7_cheapest_3 : decode cX7_cheapest 3 = .ok (.iconst 0, 1) := by decide +kernel
theorem dX7_cheapest_4 : decode cX7_cheapest 4 = .ok (.istore_n 2, 1) := by decide +kernel
theorem dX7_cheapest_5 : decode cX7_cheapest 5 = .ok (.iload_n 2, 1) := by decide +kernel
theorem dX7_cheapest_6 : decode cX7_cheapest 6 = .ok (.aload_n 0, 1) := by decide +kernel
theorem dX7_cheapest_7 : decode cX7_cheapest 7 = .ok (.getfield 7, 3) := by decide +kernel
theorem dX7_cheapest_10 : decode cX7_cheapest 10 = .ok (.bipush 8, 2) := by decide +kernel
theorem dX7_cheapest_12 : decode cX7_cheapest 12 = .ok (.iaload, 1) := by decide +kernel
theorem dX7_cheapest_13 : decode cX7_cheapest 13 = .ok (.if_icmp .ge 36, 3) := by decide +kernel
theorem dX7_cheapest_16 : decode cX7_cheapest 16 = .ok (.iload_n 1, 1) := by decide +kernel
theorem dX7_cheapest_17 : decode cX7_cheapest 17 = .ok (.bipush (-4), 2) := by decide +kernel
theorem dX7_cheapest_19 : decode cX7_cheapest 19 = .ok (.if_icmp .eq 18, 3) := by decide +kernel
theorem dX7_cheapest_22 : decode cX7_cheapest 22 = .ok (.aload_n 0, 1) := by decide +kernel
theorem dX7_cheapest_23 : decode cX7_cheapest 23 = .ok (.getfield 29, 3) := by decide +kernel
theorem dX7_cheapest_26 : decode cX7_cheapest 26 = .ok (.iload_n 2, 1) := by decide +kernel
theorem dX7_cheapest_27 : decode cX7_cheapest 27 = .ok (.iaload, 1) := by decide +kernel
theorem dX7_cheapest_28 : decode cX7_cheapest 28 = .ok (.aload_n 0, 1) := by decide +kernel
theorem dX7_cheapest_29 : decode cX7_cheapest 29 = .ok (.getfield 29, 3) := by decide +kernel
theorem dX7_cheapest_32 : decode cX7_cheapest 32 = .ok (.iload_n 1, 1) := by decide +kernel
theorem dX7_cheapest_33 : decode cX7_cheapest 33 = .ok (.iaload, 1) := by decide +kernel
theorem dX7_cheapest_34 : decode cX7_cheapest 34 = .ok (.if_icmp .ge 7, 3) := by decide +kernel
theorem dX7_cheapest_37 : decode cX7_cheapest 37 = .ok (.iload_n 2, 1) := by decide +kernel
theorem dX7_cheapest_38 : decode cX7_cheapest 38 = .ok (.goto 4, 3) := by decide +kernel
theorem dX7_cheapest_41 : decode cX7_cheapest 41 = .ok (.iload_n 1, 1) := by decide +kernel
theorem dX7_cheapest_42 : decode cX7_cheapest 42 = .ok (.istore_n 1, 1) := by decide +kernel
theorem dX7_cheapest_43 : decode cX7_cheapest 43 = .ok (.iinc 2 1, 3) := by decide +kernel
theorem dX7_cheapest_46 : decode cX7_cheapest 46 = .ok (.goto (-41), 3) := by decide +kernel
theorem dX7_cheapest_49 : decode cX7_cheapest 49 = .ok (.iload_n 1, 1) := by decide +kernel
theorem dX7_cheapest_50 : decode cX7_cheapest 50 = .ok (.ireturn, 1) := by decide +kernel
theorem dX7_rule_0 : decode cX7_rule 0 = .ok (.bipush (-4), 2) := by decide +kernel
theorem dX7_rule_2 : decode cX7_rule 2 = .ok (.istore_n 2, 1) := by decide +kernel
theorem dX7_rule_3 : decode cX7_rule 3 = .ok (.iconst 0, 1) := by decide +kernel
theorem dX7_rule_4 : decode cX7_rule 4 = .ok (.istore_n 3, 1) := by decide +kernel
theorem dX7_rule_5 : decode cX7_rule 5 = .ok (.iload_n 3, 1) := by decide +kernel
theorem dX7_rule_6 : decode cX7_rule 6 = .ok (.aload_n 0, 1) := by decide +kernel
theorem dX7_rule_7 : decode cX7_rule 7 = .ok (.getfield 7, 3) := by decide +kernel
theorem dX7_rule_10 : decode cX7_rule 10 = .ok (.bipush 8, 2) := by decide +kernel
theorem dX7_rule_12 : decode cX7_rule 12 = .ok (.iaload, 1) := by decide +kernel
theorem dX7_rule_13 : decode cX7_rule 13 = .ok (.if_icmp .ge 40, 3) := by decide +kernel
theorem dX7_rule_16 : decode cX7_rule 16 = .ok (.iload_n 2, 1) := by decide +kernel
theorem dX7_rule_17 : decode cX7_rule 17 = .ok (.bipush (-4), 2) := by decide +kernel
theorem dX7_rule_19 : decode cX7_rule 19 = .ok (.if_icmp .eq 22, 3) := by decide +kernel
theorem dX7_rule_22 : decode cX7_rule 22 = .ok (.aload_n 0, 1) := by decide +kernel
theorem dX7_rule_23 : decode cX7_rule 23 = .ok (.getfield 7, 3) := by decide +kernel
theorem dX7_rule_26 : decode cX7_rule 26 = .ok (.iconst 4, 1) := by decide +kernel
theorem dX7_rule_27 : decode cX7_rule 27 = .ok (.iload_n 3, 1) := by decide +kernel
theorem dX7_rule_28 : decode cX7_rule 28 = .ok (.iadd, 1) := by decide +kernel
theorem dX7_rule_29 : decode cX7_rule 29 = .ok (.iaload, 1) := by decide +kernel
theorem dX7_rule_30 : decode cX7_rule 30 = .ok (.aload_n 0, 1) := by decide +kernel
theorem dX7_rule_31 : decode cX7_rule 31 = .ok (.getfield 7, 3) := by decide +kernel
theorem dX7_rule_34 : decode cX7_rule 34 = .ok (.iconst 4, 1) := by decide +kernel
theorem dX7_rule_35 : decode cX7_rule 35 = .ok (.iload_n 2, 1) := by decide +kernel
theorem dX7_rule_36 : decode cX7_rule 36 = .ok (.iadd, 1) := by decide +kernel
theorem dX7_rule_37 : decode cX7_rule 37 = .ok (.iaload, 1) := by decide +kernel
theorem dX7_rule_38 : decode cX7_rule 38 = .ok (.if_icmp .ge 7, 3) := by decide +kernel
theorem dX7_rule_41 : decode cX7_rule 41 = .ok (.iload_n 3, 1) := by decide +kernel
theorem dX7_rule_42 : decode cX7_rule 42 = .ok (.goto 4, 3) := by decide +kernel
theorem dX7_rule_45 : decode cX7_rule 45 = .ok (.iload_n 2, 1) := by decide +kernel
theorem dX7_rule_46 : decode cX7_rule 46 = .ok (.istore_n 2, 1) := by decide +kernel
theorem dX7_rule_47 : decode cX7_rule 47 = .ok (.iinc 3 1, 3) := by decide +kernel
theorem dX7_rule_50 : decode cX7_rule 50 = .ok (.goto (-45), 3) := by decide +kernel
theorem dX7_rule_53 : decode cX7_rule 53 = .ok (.iload_n 1, 1) := by decide +kernel
theorem dX7_rule_54 : decode cX7_rule 54 = .ok (.tableswitch 75 0 5 #[38, 43, 51, 59, 67, 73], 38) := by decide +kernel
theorem dX7_rule_92 : decode cX7_rule 92 = .ok (.aload_n 0, 1) := by decide +kernel
theorem dX7_rule_93 : decode cX7_rule 93 = .ok (.getfield 13, 3) := by decide +kernel
theorem dX7_rule_96 : decode cX7_rule 96 = .ok (.ireturn, 1) := by decide +kernel
theorem dX7_rule_97 : decode cX7_rule 97 = .ok (.aload_n 0, 1) := by decide +kernel
theorem dX7_rule_98 : decode cX7_rule 98 = .ok (.getfield 7, 3) := by decide +kernel
theorem dX7_rule_101 : decode cX7_rule 101 = .ok (.bipush 8, 2) := by decide +kernel
theorem dX7_rule_103 : decode cX7_rule 103 = .ok (.iaload, 1) := by decide +kernel
theorem dX7_rule_104 : decode cX7_rule 104 = .ok (.ireturn, 1) := by decide +kernel
theorem dX7_rule_105 : decode cX7_rule 105 = .ok (.aload_n 0, 1) := by decide +kernel
theorem dX7_rule_106 : decode cX7_rule 106 = .ok (.getfield 7, 3) := by decide +kernel
theorem dX7_rule_109 : decode cX7_rule 109 = .ok (.bipush 25, 2) := by decide +kernel
theorem dX7_rule_111 : decode cX7_rule 111 = .ok (.iaload, 1) := by decide +kernel
theorem dX7_rule_112 : decode cX7_rule 112 = .ok (.ireturn, 1) := by decide +kernel
theorem dX7_rule_113 : decode cX7_rule 113 = .ok (.aload_n 0, 1) := by decide +kernel
theorem dX7_rule_114 : decode cX7_rule 114 = .ok (.getfield 7, 3) := by decide +kernel
theorem dX7_rule_117 : decode cX7_rule 117 = .ok (.bipush 26, 2) := by decide +kernel
theorem dX7_rule_119 : decode cX7_rule 119 = .ok (.iaload, 1) := by decide +kernel
theorem dX7_rule_120 : decode cX7_rule 120 = .ok (.ireturn, 1) := by decide +kernel
theorem dX7_rule_121 : decode cX7_rule 121 = .ok (.aload_n 0, 1) := by decide +kernel
theorem dX7_rule_122 : decode cX7_rule 122 = .ok (.iconst 0, 1) := by decide +kernel
theorem dX7_rule_123 : decode cX7_rule 123 = .ok (.invokevirtual 156, 3) := by decide +kernel
theorem dX7_rule_126 : decode cX7_rule 126 = .ok (.ireturn, 1) := by decide +kernel
theorem dX7_rule_127 : decode cX7_rule 127 = .ok (.iload_n 2, 1) := by decide +kernel
theorem dX7_rule_128 : decode cX7_rule 128 = .ok (.ireturn, 1) := by decide +kernel
theorem dX7_rule_129 : decode cX7_rule 129 = .ok (.iconst (-1), 1) := by decide +kernel
theorem dX7_rule_130 : decode cX7_rule 130 = .ok (.ireturn, 1) := by decide +kernel
theorem dX7_shelf_0 : decode cX7_shelf 0 = .ok (.aload_n 0, 1) := by decide +kernel
theorem dX7_shelf_1 : decode cX7_shelf 1 = .ok (.iload_n 1, 1) := by decide +kernel
theorem dX7_shelf_2 : decode cX7_shelf 2 = .ok (.invokevirtual 162, 3) := by decide +kernel
theorem dX7_shelf_5 : decode cX7_shelf 5 = .ok (.ifCond .ne 5, 3) := by decide +kernel
theorem dX7_shelf_8 : decode cX7_shelf 8 = .ok (.iconst (-1), 1) := by decide +kernel
theorem dX7_shelf_9 : decode cX7_shelf 9 = .ok (.ireturn, 1) := by decide +kernel
theorem dX7_shelf_10 : decode cX7_shelf 10 = .ok (.iload_n 2, 1) := by decide +kernel
theorem dX7_shelf_11 : decode cX7_shelf 11 = .ok (.ifCond .eq 8, 3) := by decide +kernel
theorem dX7_shelf_14 : decode cX7_shelf 14 = .ok (.iload_n 2, 1) := by decide +kernel
theorem dX7_shelf_15 : decode cX7_shelf 15 = .ok (.iconst 1, 1) := by decide +kernel
theorem dX7_shelf_16 : decode cX7_shelf 16 = .ok (.if_icmp .ne 14, 3) := by decide +kernel
theorem dX7_shelf_19 : decode cX7_shelf 19 = .ok (.aload_n 0, 1) := by decide +kernel
theorem dX7_shelf_20 : decode cX7_shelf 20 = .ok (.getfield 7, 3) := by decide +kernel
theorem dX7_shelf_23 : decode cX7_shelf 23 = .ok (.iconst 4, 1) := by decide +kernel
theorem dX7_shelf_24 : decode cX7_shelf 24 = .ok (.iload_n 2, 1) := by decide +kernel
theorem dX7_shelf_25 : decode cX7_shelf 25 = .ok (.imul, 1) := by decide +kernel
theorem dX7_shelf_26 : decode cX7_shelf 26 = .ok (.iload_n 1, 1) := by decide +kernel
theorem dX7_shelf_27 : decode cX7_shelf 27 = .ok (.iadd, 1) := by decide +kernel
theorem dX7_shelf_28 : decode cX7_shelf 28 = .ok (.iaload, 1) := by decide +kernel
theorem dX7_shelf_29 : decode cX7_shelf 29 = .ok (.ireturn, 1) := by decide +kernel
theorem dX7_shelf_30 : decode cX7_shelf 30 = .ok (.aload_n 0, 1) := by decide +kernel
theorem dX7_shelf_31 : decode cX7_shelf 31 = .ok (.iload_n 2, 1) := by decide +kernel
theorem dX7_shelf_32 : decode cX7_shelf 32 = .ok (.bipush 10, 2) := by decide +kernel
theorem dX7_shelf_34 : decode cX7_shelf 34 = .ok (.isub, 1) := by decide +kernel
theorem dX7_shelf_35 : decode cX7_shelf 35 = .ok (.invokevirtual 166, 3) := by decide +kernel
theorem dX7_shelf_38 : decode cX7_shelf 38 = .ok (.ifCond .eq 21, 3) := by decide +kernel
theorem dX7_shelf_41 : decode cX7_shelf 41 = .ok (.aload_n 0, 1) := by decide +kernel
theorem dX7_shelf_42 : decode cX7_shelf 42 = .ok (.getfield 7, 3) := by decide +kernel
theorem dX7_shelf_45 : decode cX7_shelf 45 = .ok (.bipush 27, 2) := by decide +kernel
theorem dX7_shelf_47 : decode cX7_shelf 47 = .ok (.bipush 6, 2) := by decide +kernel
theorem dX7_shelf_49 : decode cX7_shelf 49 = .ok (.iload_n 1, 1) := by decide +kernel
theorem dX7_shelf_50 : decode cX7_shelf 50 = .ok (.imul, 1) := by decide +kernel
theorem dX7_shelf_51 : decode cX7_shelf 51 = .ok (.iadd, 1) := by decide +kernel
theorem dX7_shelf_52 : decode cX7_shelf 52 = .ok (.iload_n 2, 1) := by decide +kernel
theorem dX7_shelf_53 : decode cX7_shelf 53 = .ok (.iadd, 1) := by decide +kernel
theorem dX7_shelf_54 : decode cX7_shelf 54 = .ok (.bipush 10, 2) := by decide +kernel
theorem dX7_shelf_56 : decode cX7_shelf 56 = .ok (.isub, 1) := by decide +kernel
theorem dX7_shelf_57 : decode cX7_shelf 57 = .ok (.iaload, 1) := by decide +kernel
theorem dX7_shelf_58 : decode cX7_shelf 58 = .ok (.ireturn, 1) := by decide +kernel
theorem dX7_shelf_59 : decode cX7_shelf 59 = .ok (.aload_n 0, 1) := by decide +kernel
theorem dX7_shelf_60 : decode cX7_shelf 60 = .ok (.iload_n 2, 1) := by decide +kernel
theorem dX7_shelf_61 : decode cX7_shelf 61 = .ok (.bipush 20, 2) := by decide +kernel
theorem dX7_shelf_63 : decode cX7_shelf 63 = .ok (.isub, 1) := by decide +kernel
theorem dX7_shelf_64 : decode cX7_shelf 64 = .ok (.invokevirtual 166, 3) := by decide +kernel
theorem dX7_shelf_67 : decode cX7_shelf 67 = .ok (.ifCond .eq 23, 3) := by decide +kernel
theorem dX7_shelf_70 : decode cX7_shelf 70 = .ok (.aload_n 0, 1) := by decide +kernel
theorem dX7_shelf_71 : decode cX7_shelf 71 = .ok (.getfield 7, 3) := by decide +kernel
theorem dX7_shelf_74 : decode cX7_shelf 74 = .ok (.bipush 51, 2) := by decide +kernel
theorem dX7_shelf_76 : decode cX7_shelf 76 = .ok (.bipush 6, 2) := by decide +kernel
theorem dX7_shelf_78 : decode cX7_shelf 78 = .ok (.iload_n 1, 1) := by decide +kernel
theorem dX7_shelf_79 : decode cX7_shelf 79 = .ok (.imul, 1) := by decide +kernel
theorem dX7_shelf_80 : decode cX7_shelf 80 = .ok (.iadd, 1) := by decide +kernel
theorem dX7_shelf_81 : decode cX7_shelf 81 = .ok (.iload_n 2, 1) := by decide +kernel
theorem dX7_shelf_82 : decode cX7_shelf 82 = .ok (.iadd, 1) := by decide +kernel
theorem dX7_shelf_83 : decode cX7_shelf 83 = .ok (.bipush 20, 2) := by decide +kernel
theorem dX7_shelf_85 : decode cX7_shelf 85 = .ok (.isub, 1) := by decide +kernel
theorem dX7_shelf_86 : decode cX7_shelf 86 = .ok (.iaload, 1) := by decide +kernel
theorem dX7_shelf_87 : decode cX7_shelf 87 = .ok (.goto 4, 3) := by decide +kernel
theorem dX7_shelf_90 : decode cX7_shelf 90 = .ok (.iconst (-1), 1) := by decide +kernel
theorem dX7_shelf_91 : decode cX7_shelf 91 = .ok (.ireturn, 1) := by decide +kernel
theorem dX7_place_0 : decode cX7_place 0 = .ok (.aload_n 0, 1) := by decide +kernel
theorem dX7_place_1 : decode cX7_place 1 = .ok (.iload_n 1, 1) := by decide +kernel
theorem dX7_place_2 : decode cX7_place 2 = .ok (.invokevirtual 162, 3) := by decide +kernel
theorem dX7_place_5 : decode cX7_place 5 = .ok (.ifCond .eq 21, 3) := by decide +kernel
theorem dX7_place_8 : decode cX7_place 8 = .ok (.aload_n 0, 1) := by decide +kernel
theorem dX7_place_9 : decode cX7_place 9 = .ok (.iload_n 2, 1) := by decide +kernel
theorem dX7_place_10 : decode cX7_place 10 = .ok (.invokevirtual 166, 3) := by decide +kernel
theorem dX7_place_13 : decode cX7_place 13 = .ok (.ifCond .eq 13, 3) := by decide +kernel
theorem dX7_place_16 : decode cX7_place 16 = .ok (.aload_n 0, 1) := by decide +kernel
theorem dX7_place_17 : decode cX7_place 17 = .ok (.iconst 0, 1) := by decide +kernel
theorem dX7_place_18 : decode cX7_place 18 = .ok (.iload_n 1, 1) := by decide +kernel
theorem dX7_place_19 : decode cX7_place 19 = .ok (.iload_n 2, 1) := by decide +kernel
theorem dX7_place_20 : decode cX7_place 20 = .ok (.invokevirtual 144, 3) := by decide +kernel
theorem dX7_place_23 : decode cX7_place 23 = .ok (.goto 4, 3) := by decide +kernel
theorem dX7_place_26 : decode cX7_place 26 = .ok (.iconst (-1), 1) := by decide +kernel
theorem dX7_place_27 : decode cX7_place 27 = .ok (.ireturn, 1) := by decide +kernel
theorem dX7_want_0 : decode cX7_want 0 = .ok (.aload_n 0, 1) := by decide +kernel
theorem dX7_want_1 : decode cX7_want 1 = .ok (.iload_n 1, 1) := by decide +kernel
theorem dX7_want_2 : decode cX7_want 2 = .ok (.invokevirtual 169, 3) := by decide +kernel
theorem dX7_want_5 : decode cX7_want 5 = .ok (.ifCond .eq 15, 3) := by decide +kernel
theorem dX7_want_8 : decode cX7_want 8 = .ok (.aload_n 0, 1) := by decide +kernel
theorem dX7_want_9 : decode cX7_want 9 = .ok (.getfield 7, 3) := by decide +kernel
theorem dX7_want_12 : decode cX7_want 12 = .ok (.bipush 9, 2) := by decide +kernel
theorem dX7_want_14 : decode cX7_want 14 = .ok (.iload_n 1, 1) := by decide +kernel
theorem dX7_want_15 : decode cX7_want 15 = .ok (.iadd, 1) := by decide +kernel
theorem dX7_want_16 : decode cX7_want 16 = .ok (.iaload, 1) := by decide +kernel
theorem dX7_want_17 : decode cX7_want 17 = .ok (.goto 4, 3) := by decide +kernel
theorem dX7_want_20 : decode cX7_want 20 = .ok (.iconst (-1), 1) := by decide +kernel
theorem dX7_want_21 : decode cX7_want 21 = .ok (.ireturn, 1) := by decide +kernel
theorem dX7_puts_0 : decode cX7_puts 0 = .ok (.iload_n 1, 1) := by decide +kernel
theorem dX7_puts_1 : decode cX7_puts 1 = .ok (.ifCond .ne 5, 3) := by decide +kernel
theorem dX7_puts_4 : decode cX7_puts 4 = .ok (.iconst (-1), 1) := by decide +kernel
theorem dX7_puts_5 : decode cX7_puts 5 = .ok (.ireturn, 1) := by decide +kernel
theorem dX7_puts_6 : decode cX7_puts 6 = .ok (.aload_n 0, 1) := by decide +kernel
theorem dX7_puts_7 : decode cX7_puts 7 = .ok (.getfield 7, 3) := by decide +kernel
theorem dX7_puts_10 : decode cX7_puts 10 = .ok (.iload_n 2, 1) := by decide +kernel
theorem dX7_puts_11 : decode cX7_puts 11 = .ok (.iaload, 1) := by decide +kernel
theorem dX7_puts_12 : decode cX7_puts 12 = .ok (.istore 4, 2) := by decide +kernel
theorem dX7_puts_14 : decode cX7_puts 14 = .ok (.aload_n 0, 1) := by decide +kernel
theorem dX7_puts_15 : decode cX7_puts 15 = .ok (.getfield 7, 3) := by decide +kernel
theorem dX7_puts_18 : decode cX7_puts 18 = .ok (.iload_n 2, 1) := by decide +kernel
theorem dX7_puts_19 : decode cX7_puts 19 = .ok (.iload_n 3, 1) := by decide +kernel
theorem dX7_puts_20 : decode cX7_puts 20 = .ok (.iastore, 1) := by decide +kernel
theorem dX7_puts_21 : decode cX7_puts 21 = .ok (.iload 4, 2) := by decide +kernel
theorem dX7_puts_23 : decode cX7_puts 23 = .ok (.ireturn, 1) := by decide +kernel
theorem dX7_alter_0 : decode cX7_alter 0 = .ok (.aload_n 0, 1) := by decide +kernel
theorem dX7_alter_1 : decode cX7_alter 1 = .ok (.aload_n 0, 1) := by decide +kernel
theorem dX7_alter_2 : decode cX7_alter 2 = .ok (.iload_n 1, 1) := by decide +kernel
theorem dX7_alter_3 : decode cX7_alter 3 = .ok (.invokevirtual 162, 3) := by decide +kernel
theorem dX7_alter_6 : decode cX7_alter 6 = .ok (.ifCond .eq 19, 3) := by decide +kernel
theorem dX7_alter_9 : decode cX7_alter 9 = .ok (.iload_n 2, 1) := by decide +kernel
theorem dX7_alter_10 : decode cX7_alter 10 = .ok (.i2l, 1) := by decide +kernel
theorem dX7_alter_11 : decode cX7_alter 11 = .ok (.lconst 0, 1) := by decide +kernel
theorem dX7_alter_12 : decode cX7_alter 12 = .ok (.ldc2_w 172, 3) := by decide +kernel
theorem dX7_alter_15 : decode cX7_alter 15 = .ok (.invokestatic 56, 3) := by decide +kernel
theorem dX7_alter_18 : decode cX7_alter 18 = .ok (.ifCond .eq 7, 3) := by decide +kernel
theorem dX7_alter_21 : decode cX7_alter 21 = .ok (.iconst 1, 1) := by decide +kernel
theorem dX7_alter_22 : decode cX7_alter 22 = .ok (.goto 4, 3) := by decide +kernel
theorem dX7_alter_25 : decode cX7_alter 25 = .ok (.iconst 0, 1) := by decide +kernel
theorem dX7_alter_26 : decode cX7_alter 26 = .ok (.iload_n 1, 1) := by decide +kernel
theorem dX7_alter_27 : decode cX7_alter 27 = .ok (.iload_n 2, 1) := by decide +kernel
theorem dX7_alter_28 : decode cX7_alter 28 = .ok (.invokevirtual 174, 3) := by decide +kernel
theorem dX7_alter_31 : decode cX7_alter 31 = .ok (.ireturn, 1) := by decide +kernel
theorem dX7_put_0 : decode cX7_put 0 = .ok (.iload_n 1, 1) := by decide +kernel
theorem dX7_put_1 : decode cX7_put 1 = .ok (.i2l, 1) := by decide +kernel
theorem dX7_put_2 : decode cX7_put 2 = .ok (.lconst 0, 1) := by decide +kernel
theorem dX7_put_3 : decode cX7_put 3 = .ok (.ldc2_w 172, 3) := by decide +kernel
theorem dX7_put_6 : decode cX7_put 6 = .ok (.invokestatic 56, 3) := by decide +kernel
theorem dX7_put_9 : decode cX7_put 9 = .ok (.ifCond .ne 5, 3) := by decide +kernel
theorem dX7_put_12 : decode cX7_put 12 = .ok (.iconst (-1), 1) := by decide +kernel
theorem dX7_put_13 : decode cX7_put 13 = .ok (.ireturn, 1) := by decide +kernel
theorem dX7_put_14 : decode cX7_put 14 = .ok (.aload_n 0, 1) := by decide +kernel
theorem dX7_put_15 : decode cX7_put 15 = .ok (.getfield 7, 3) := by decide +kernel
theorem dX7_put_18 : decode cX7_put 18 = .ok (.bipush 8, 2) := by decide +kernel
theorem dX7_put_20 : decode cX7_put 20 = .ok (.iaload, 1) := by decide +kernel
theorem dX7_put_21 : decode cX7_put 21 = .ok (.istore_n 2, 1) := by decide +kernel
theorem dX7_put_22 : decode cX7_put 22 = .ok (.iload_n 2, 1) := by decide +kernel
theorem dX7_put_23 : decode cX7_put 23 = .ok (.iconst 4, 1) := by decide +kernel
theorem dX7_put_24 : decode cX7_put 24 = .ok (.if_icmp .ne 6, 3) := by decide +kernel
theorem dX7_put_27 : decode cX7_put 27 = .ok (.bipush (-3), 2) := by decide +kernel
theorem dX7_put_29 : decode cX7_put 29 = .ok (.ireturn, 1) := by decide +kernel
theorem dX7_put_30 : decode cX7_put 30 = .ok (.aload_n 0, 1) := by decide +kernel
theorem dX7_put_31 : decode cX7_put 31 = .ok (.getfield 7, 3) := by decide +kernel
theorem dX7_put_34 : decode cX7_put 34 = .ok (.iload_n 2, 1) := by decide +kernel
theorem dX7_put_35 : decode cX7_put 35 = .ok (.iload_n 1, 1) := by decide +kernel
theorem dX7_put_36 : decode cX7_put 36 = .ok (.iastore, 1) := by decide +kernel
theorem dX7_put_37 : decode cX7_put 37 = .ok (.aload_n 0, 1) := by decide +kernel
theorem dX7_put_38 : decode cX7_put 38 = .ok (.iload_n 2, 1) := by decide +kernel
theorem dX7_put_39 : decode cX7_put 39 = .ok (.invokevirtual 132, 3) := by decide +kernel
theorem dX7_put_42 : decode cX7_put 42 = .ok (.aload_n 0, 1) := by decide +kernel
theorem dX7_put_43 : decode cX7_put 43 = .ok (.getfield 7, 3) := by decide +kernel
theorem dX7_put_46 : decode cX7_put 46 = .ok (.bipush 8, 2) := by decide +kernel
theorem dX7_put_48 : decode cX7_put 48 = .ok (.dup2, 1) := by decide +kernel
theorem dX7_put_49 : decode cX7_put 49 = .ok (.iaload, 1) := by decide +kernel
theorem dX7_put_50 : decode cX7_put 50 = .ok (.iconst 1, 1) := by decide +kernel
theorem dX7_put_51 : decode cX7_put 51 = .ok (.iadd, 1) := by decide +kernel
theorem dX7_put_52 : decode cX7_put 52 = .ok (.iastore, 1) := by decide +kernel
theorem dX7_put_53 : decode cX7_put 53 = .ok (.aload_n 0, 1) := by decide +kernel
theorem dX7_put_54 : decode cX7_put 54 = .ok (.getfield 7, 3) := by decide +kernel
theorem dX7_put_57 : decode cX7_put 57 = .ok (.bipush 8, 2) := by decide +kernel
theorem dX7_put_59 : decode cX7_put 59 = .ok (.iaload, 1) := by decide +kernel
theorem dX7_put_60 : decode cX7_put 60 = .ok (.ireturn, 1) := by decide +kernel
theorem dX7_cut_0 : decode cX7_cut 0 = .ok (.aload_n 0, 1) := by decide +kernel
theorem dX7_cut_1 : decode cX7_cut 1 = .ok (.iload_n 1, 1) := by decide +kernel
theorem dX7_cut_2 : decode cX7_cut 2 = .ok (.i2l, 1) := by decide +kernel
theorem dX7_cut_3 : decode cX7_cut 3 = .ok (.lconst 0, 1) := by decide +kernel
theorem dX7_cut_4 : decode cX7_cut 4 = .ok (.aload_n 0, 1) := by decide +kernel
theorem dX7_cut_5 : decode cX7_cut 5 = .ok (.getfield 7, 3) := by decide +kernel
theorem dX7_cut_8 : decode cX7_cut 8 = .ok (.bipush 8, 2) := by decide +kernel
theorem dX7_cut_10 : decode cX7_cut 10 = .ok (.iaload, 1) := by decide +kernel
theorem dX7_cut_11 : decode cX7_cut 11 = .ok (.i2l, 1) := by decide +kernel
theorem dX7_cut_12 : decode cX7_cut 12 = .ok (.invokestatic 56, 3) := by decide +kernel
theorem dX7_cut_15 : decode cX7_cut 15 = .ok (.bipush 8, 2) := by decide +kernel
theorem dX7_cut_17 : decode cX7_cut 17 = .ok (.iload_n 1, 1) := by decide +kernel
theorem dX7_cut_18 : decode cX7_cut 18 = .ok (.invokevirtual 174, 3) := by decide +kernel
theorem dX7_cut_21 : decode cX7_cut 21 = .ok (.ireturn, 1) := by decide +kernel
theorem dX7_stand_0 : decode cX7_stand 0 = .ok (.aload_n 0, 1) := by decide +kernel
theorem dX7_stand_1 : decode cX7_stand 1 = .ok (.iload_n 1, 1) := by decide +kernel
theorem dX7_stand_2 : decode cX7_stand 2 = .ok (.invokevirtual 162, 3) := by decide +kernel
theorem dX7_stand_5 : decode cX7_stand 5 = .ok (.ifCond .eq 19, 3) := by decide +kernel
theorem dX7_stand_8 : decode cX7_stand 8 = .ok (.aload_n 0, 1) := by decide +kernel
theorem dX7_stand_9 : decode cX7_stand 9 = .ok (.iload_n 2, 1) := by decide +kernel
theorem dX7_stand_10 : decode cX7_stand 10 = .ok (.invokevirtual 166, 3) := by decide +kernel
theorem dX7_stand_13 : decode cX7_stand 13 = .ok (.ifCond .eq 11, 3) := by decide +kernel
theorem dX7_stand_16 : decode cX7_stand 16 = .ok (.aload_n 0, 1) := by decide +kernel
theorem dX7_stand_17 : decode cX7_stand 17 = .ok (.iload_n 3, 1) := by decide +kernel
theorem dX7_stand_18 : decode cX7_stand 18 = .ok (.invokevirtual 166, 3) := by decide +kernel
theorem dX7_stand_21 : decode cX7_stand 21 = .ok (.ifCond .ne 5, 3) := by decide +kernel
theorem dX7_stand_24 : decode cX7_stand 24 = .ok (.iconst (-1), 1) := by decide +kernel
theorem dX7_stand_25 : decode cX7_stand 25 = .ok (.ireturn, 1) := by decide +kernel
theorem dX7_stand_26 : decode cX7_stand 26 = .ok (.aload_n 0, 1) := by decide +kernel
theorem dX7_stand_27 : decode cX7_stand 27 = .ok (.iconst 0, 1) := by decide +kernel
theorem dX7_stand_28 : decode cX7_stand 28 = .ok (.iload_n 1, 1) := by decide +kernel
theorem dX7_stand_29 : decode cX7_stand 29 = .ok (.iload_n 2, 1) := by decide +kernel
theorem dX7_stand_30 : decode cX7_stand 30 = .ok (.invokevirtual 144, 3) := by decide +kernel
theorem dX7_stand_33 : decode cX7_stand 33 = .ok (.istore 4, 2) := by decide +kernel
theorem dX7_stand_35 : decode cX7_stand 35 = .ok (.aload_n 0, 1) := by decide +kernel
theorem dX7_stand_36 : decode cX7_stand 36 = .ok (.iconst 0, 1) := by decide +kernel
theorem dX7_stand_37 : decode cX7_stand 37 = .ok (.iload_n 1, 1) := by decide +kernel
theorem dX7_stand_38 : decode cX7_stand 38 = .ok (.iload 4, 2) := by decide +kernel
theorem dX7_stand_40 : decode cX7_stand 40 = .ok (.iload_n 3, 1) := by decide +kernel
theorem dX7_stand_41 : decode cX7_stand 41 = .ok (.invokevirtual 152, 3) := by decide +kernel
theorem dX7_stand_44 : decode cX7_stand 44 = .ok (.iload 4, 2) := by decide +kernel
theorem dX7_stand_46 : decode cX7_stand 46 = .ok (.ireturn, 1) := by decide +kernel
theorem dX7_set_0 : decode cX7_set 0 = .ok (.aload_n 0, 1) := by decide +kernel
theorem dX7_set_1 : decode cX7_set 1 = .ok (.aload_n 0, 1) := by decide +kernel
theorem dX7_set_2 : decode cX7_set 2 = .ok (.iload_n 1, 1) := by decide +kernel
theorem dX7_set_3 : decode cX7_set 3 = .ok (.invokevirtual 169, 3) := by decide +kernel
theorem dX7_set_6 : decode cX7_set 6 = .ok (.ifCond .eq 15, 3) := by decide +kernel
theorem dX7_set_9 : decode cX7_set 9 = .ok (.aload_n 0, 1) := by decide +kernel
theorem dX7_set_10 : decode cX7_set 10 = .ok (.iload_n 2, 1) := by decide +kernel
theorem dX7_set_11 : decode cX7_set 11 = .ok (.invokevirtual 166, 3) := by decide +kernel
theorem dX7_set_14 : decode cX7_set 14 = .ok (.ifCond .eq 7, 3) := by decide +kernel
theorem dX7_set_17 : decode cX7_set 17 = .ok (.iconst 1, 1) := by decide +kernel
theorem dX7_set_18 : decode cX7_set 18 = .ok (.goto 4, 3) := by decide +kernel
theorem dX7_set_21 : decode cX7_set 21 = .ok (.iconst 0, 1) := by decide +kernel
theorem dX7_set_22 : decode cX7_set 22 = .ok (.bipush 9, 2) := by decide +kernel
theorem dX7_set_24 : decode cX7_set 24 = .ok (.iload_n 1, 1) := by decide +kernel
theorem dX7_set_25 : decode cX7_set 25 = .ok (.iadd, 1) := by decide +kernel
theorem dX7_set_26 : decode cX7_set 26 = .ok (.iload_n 2, 1) := by decide +kernel
theorem dX7_set_27 : decode cX7_set 27 = .ok (.invokevirtual 174, 3) := by decide +kernel
theorem dX7_set_30 : decode cX7_set 30 = .ok (.ireturn, 1) := by decide +kernel
theorem dX7_adds_0 : decode cX7_adds 0 = .ok (.aload_n 0, 1) := by decide +kernel
theorem dX7_adds_1 : decode cX7_adds 1 = .ok (.iload_n 1, 1) := by decide +kernel
theorem dX7_adds_2 : decode cX7_adds 2 = .ok (.invokevirtual 166, 3) := by decide +kernel
theorem dX7_adds_5 : decode cX7_adds 5 = .ok (.ifCond .ne 5, 3) := by decide +kernel
theorem dX7_adds_8 : decode cX7_adds 8 = .ok (.iconst (-1), 1) := by decide +kernel
theorem dX7_adds_9 : decode cX7_adds 9 = .ok (.ireturn, 1) := by decide +kernel
theorem dX7_adds_10 : decode cX7_adds 10 = .ok (.aload_n 0, 1) := by decide +kernel
theorem dX7_adds_11 : decode cX7_adds 11 = .ok (.getfield 7, 3) := by decide +kernel
theorem dX7_adds_14 : decode cX7_adds 14 = .ok (.bipush 25, 2) := by decide +kernel
theorem dX7_adds_16 : decode cX7_adds 16 = .ok (.iaload, 1) := by decide +kernel
theorem dX7_adds_17 : decode cX7_adds 17 = .ok (.bipush 16, 2) := by decide +kernel
theorem dX7_adds_19 : decode cX7_adds 19 = .ok (.if_icmp .ne 6, 3) := by decide +kernel
theorem dX7_adds_22 : decode cX7_adds 22 = .ok (.bipush (-3), 2) := by decide +kernel
theorem dX7_adds_24 : decode cX7_adds 24 = .ok (.ireturn, 1) := by decide +kernel
theorem dX7_adds_25 : decode cX7_adds 25 = .ok (.aload_n 0, 1) := by decide +kernel
theorem dX7_adds_26 : decode cX7_adds 26 = .ok (.getfield 7, 3) := by decide +kernel
theorem dX7_adds_29 : decode cX7_adds 29 = .ok (.bipush 9, 2) := by decide +kernel
theorem dX7_adds_31 : decode cX7_adds 31 = .ok (.aload_n 0, 1) := by decide +kernel
theorem dX7_adds_32 : decode cX7_adds 32 = .ok (.getfield 7, 3) := by decide +kernel
theorem dX7_adds_35 : decode cX7_adds 35 = .ok (.bipush 25, 2) := by decide +kernel
theorem dX7_adds_37 : decode cX7_adds 37 = .ok (.iaload, 1) := by decide +kernel
theorem dX7_adds_38 : decode cX7_adds 38 = .ok (.iadd, 1) := by decide +kernel
theorem dX7_adds_39 : decode cX7_adds 39 = .ok (.iload_n 1, 1) := by decide +kernel
theorem dX7_adds_40 : decode cX7_adds 40 = .ok (.iastore, 1) := by decide +kernel
theorem dX7_adds_41 : decode cX7_adds 41 = .ok (.aload_n 0, 1) := by decide +kernel
theorem dX7_adds_42 : decode cX7_adds 42 = .ok (.getfield 7, 3) := by decide +kernel
theorem dX7_adds_45 : decode cX7_adds 45 = .ok (.bipush 25, 2) := by decide +kernel
theorem dX7_adds_47 : decode cX7_adds 47 = .ok (.dup2, 1) := by decide +kernel
theorem dX7_adds_48 : decode cX7_adds 48 = .ok (.iaload, 1) := by decide +kernel
theorem dX7_adds_49 : decode cX7_adds 49 = .ok (.iconst 1, 1) := by decide +kernel
theorem dX7_adds_50 : decode cX7_adds 50 = .ok (.iadd, 1) := by decide +kernel
theorem dX7_adds_51 : decode cX7_adds 51 = .ok (.iastore, 1) := by decide +kernel
theorem dX7_adds_52 : decode cX7_adds 52 = .ok (.aload_n 0, 1) := by decide +kernel
theorem dX7_adds_53 : decode cX7_adds 53 = .ok (.getfield 7, 3) := by decide +kernel
theorem dX7_adds_56 : decode cX7_adds 56 = .ok (.bipush 25, 2) := by decide +kernel
theorem dX7_adds_58 : decode cX7_adds 58 = .ok (.iaload, 1) := by decide +kernel
theorem dX7_adds_59 : decode cX7_adds 59 = .ok (.ireturn, 1) := by decide +kernel
theorem dX7_add_0 : decode cX7_add 0 = .ok (.aload_n 0, 1) := by decide +kernel
theorem dX7_add_1 : decode cX7_add 1 = .ok (.iload_n 1, 1) := by decide +kernel
theorem dX7_add_2 : decode cX7_add 2 = .ok (.invokevirtual 178, 3) := by decide +kernel
theorem dX7_add_5 : decode cX7_add 5 = .ok (.ireturn, 1) := by decide +kernel
theorem dX7_drop_0 : decode cX7_drop 0 = .ok (.aload_n 0, 1) := by decide +kernel
theorem dX7_drop_1 : decode cX7_drop 1 = .ok (.iload_n 1, 1) := by decide +kernel
theorem dX7_drop_2 : decode cX7_drop 2 = .ok (.i2l, 1) := by decide +kernel
theorem dX7_drop_3 : decode cX7_drop 3 = .ok (.lconst 0, 1) := by decide +kernel
theorem dX7_drop_4 : decode cX7_drop 4 = .ok (.aload_n 0, 1) := by decide +kernel
theorem dX7_drop_5 : decode cX7_drop 5 = .ok (.getfield 7, 3) := by decide +kernel
theorem dX7_drop_8 : decode cX7_drop 8 = .ok (.bipush 25, 2) := by decide +kernel
theorem dX7_drop_10 : decode cX7_drop 10 = .ok (.iaload, 1) := by decide +kernel
theorem dX7_drop_11 : decode cX7_drop 11 = .ok (.i2l, 1) := by decide +kernel
theorem dX7_drop_12 : decode cX7_drop 12 = .ok (.invokestatic 56, 3) := by decide +kernel
theorem dX7_drop_15 : decode cX7_drop 15 = .ok (.bipush 25, 2) := by decide +kernel
theorem dX7_drop_17 : decode cX7_drop 17 = .ok (.iload_n 1, 1) := by decide +kernel
theorem dX7_drop_18 : decode cX7_drop 18 = .ok (.invokevirtual 174, 3) := by decide +kernel
theorem dX7_drop_21 : decode cX7_drop 21 = .ok (.ireturn, 1) := by decide +kernel
theorem dX7_take_0 : decode cX7_take 0 = .ok (.aload_n 0, 1) := by decide +kernel
theorem dX7_take_1 : decode cX7_take 1 = .ok (.iload_n 1, 1) := by decide +kernel
theorem dX7_take_2 : decode cX7_take 2 = .ok (.invokevirtual 166, 3) := by decide +kernel
theorem dX7_take_5 : decode cX7_take 5 = .ok (.ifCond .eq 12, 3) := by decide +kernel
theorem dX7_take_8 : decode cX7_take 8 = .ok (.aload_n 0, 1) := by decide +kernel
theorem dX7_take_9 : decode cX7_take 9 = .ok (.iconst 0, 1) := by decide +kernel
theorem dX7_take_10 : decode cX7_take 10 = .ok (.iload_n 1, 1) := by decide +kernel
theorem dX7_take_11 : decode cX7_take 11 = .ok (.invokevirtual 159, 3) := by decide +kernel
theorem dX7_take_14 : decode cX7_take 14 = .ok (.goto 4, 3) := by decide +kernel
theorem dX7_take_17 : decode cX7_take 17 = .ok (.iconst (-1), 1) := by decide +kernel
theorem dX7_take_18 : decode cX7_take 18 = .ok (.ireturn, 1) := by decide +kernel
theorem dX7_steps_0 : decode cX7_steps 0 = .ok (.iload_n 1, 1) := by decide +kernel
theorem dX7_steps_1 : decode cX7_steps 1 = .ok (.i2l, 1) := by decide +kernel
theorem dX7_steps_2 : decode cX7_steps 2 = .ok (.lconst 0, 1) := by decide +kernel
theorem dX7_steps_3 : decode cX7_steps 3 = .ok (.ldc2_w 181, 3) := by decide +kernel
theorem dX7_steps_6 : decode cX7_steps 6 = .ok (.invokestatic 56, 3) := by decide +kernel
theorem dX7_steps_9 : decode cX7_steps 9 = .ok (.ifCond .ne 5, 3) := by decide +kernel
theorem dX7_steps_12 : decode cX7_steps 12 = .ok (.iconst (-1), 1) := by decide +kernel
theorem dX7_steps_13 : decode cX7_steps 13 = .ok (.ireturn, 1) := by decide +kernel
theorem dX7_steps_14 : decode cX7_steps 14 = .ok (.aload_n 0, 1) := by decide +kernel
theorem dX7_steps_15 : decode cX7_steps 15 = .ok (.getfield 7, 3) := by decide +kernel
theorem dX7_steps_18 : decode cX7_steps 18 = .ok (.bipush 26, 2) := by decide +kernel
theorem dX7_steps_20 : decode cX7_steps 20 = .ok (.iaload, 1) := by decide +kernel
theorem dX7_steps_21 : decode cX7_steps 21 = .ok (.iload_n 1, 1) := by decide +kernel
theorem dX7_steps_22 : decode cX7_steps 22 = .ok (.iadd, 1) := by decide +kernel
theorem dX7_steps_23 : decode cX7_steps 23 = .ok (.sipush 9999, 3) := by decide +kernel
theorem dX7_steps_26 : decode cX7_steps 26 = .ok (.if_icmp .le 6, 3) := by decide +kernel
theorem dX7_steps_29 : decode cX7_steps 29 = .ok (.bipush (-3), 2) := by decide +kernel
theorem dX7_steps_31 : decode cX7_steps 31 = .ok (.ireturn, 1) := by decide +kernel
theorem dX7_steps_32 : decode cX7_steps 32 = .ok (.aload_n 0, 1) := by decide +kernel
theorem dX7_steps_33 : decode cX7_steps 33 = .ok (.invokevirtual 183, 3) := by decide +kernel
theorem dX7_steps_36 : decode cX7_steps 36 = .ok (.iconst 0, 1) := by decide +kernel
theorem dX7_steps_37 : decode cX7_steps 37 = .ok (.istore_n 2, 1) := by decide +kernel
theorem dX7_steps_38 : decode cX7_steps 38 = .ok (.iload_n 2, 1) := by decide +kernel
theorem dX7_steps_39 : decode cX7_steps 39 = .ok (.iload_n 1, 1) := by decide +kernel
theorem dX7_steps_40 : decode cX7_steps 40 = .ok (.if_icmp .ge 15, 3) := by decide +kernel
theorem dX7_steps_43 : decode cX7_steps 43 = .ok (.aload_n 0, 1) := by decide +kernel
theorem dX7_steps_44 : decode cX7_steps 44 = .ok (.iconst 0, 1) := by decide +kernel
theorem dX7_steps_45 : decode cX7_steps 45 = .ok (.iconst 0, 1) := by decide +kernel
theorem dX7_steps_46 : decode cX7_steps 46 = .ok (.invokevirtual 186, 3) := by decide +kernel
theorem dX7_steps_49 : decode cX7_steps 49 = .ok (.iinc 2 1, 3) := by decide +kernel
theorem dX7_steps_52 : decode cX7_steps 52 = .ok (.goto (-14), 3) := by decide +kernel
theorem dX7_steps_55 : decode cX7_steps 55 = .ok (.aload_n 0, 1) := by decide +kernel
theorem dX7_steps_56 : decode cX7_steps 56 = .ok (.invokevirtual 190, 3) := by decide +kernel
theorem dX7_steps_59 : decode cX7_steps 59 = .ok (.ireturn, 1) := by decide +kernel
theorem dX7_copies_0 : decode cX7_copies 0 = .ok (.iconst 0, 1) := by decide +kernel
theorem dX7_copies_1 : decode cX7_copies 1 = .ok (.istore_n 3, 1) := by decide +kernel
theorem dX7_copies_2 : decode cX7_copies 2 = .ok (.iload_n 3, 1) := by decide +kernel
theorem dX7_copies_3 : decode cX7_copies 3 = .ok (.bipush 75, 2) := by decide +kernel
theorem dX7_copies_5 : decode cX7_copies 5 = .ok (.if_icmp .ge 25, 3) := by decide +kernel
theorem dX7_copies_8 : decode cX7_copies 8 = .ok (.aload_n 0, 1) := by decide +kernel
theorem dX7_copies_9 : decode cX7_copies 9 = .ok (.getfield 7, 3) := by decide +kernel
theorem dX7_copies_12 : decode cX7_copies 12 = .ok (.iload_n 2, 1) := by decide +kernel
theorem dX7_copies_13 : decode cX7_copies 13 = .ok (.iload_n 3, 1) := by decide +kernel
theorem dX7_copies_14 : decode cX7_copies 14 = .ok (.iadd, 1) := by decide +kernel
theorem dX7_copies_15 : decode cX7_copies 15 = .ok (.aload_n 0, 1) := by decide +kernel
theorem dX7_copies_16 : decode cX7_copies 16 = .ok (.getfield 7, 3) := by decide +kernel
theorem dX7_copies_19 : decode cX7_copies 19 = .ok (.iload_n 1, 1) := by decide +kernel
theorem dX7_copies_20 : decode cX7_copies 20 = .ok (.iload_n 3, 1) := by decide +kernel
theorem dX7_copies_21 : decode cX7_copies 21 = .ok (.iadd, 1) := by decide +kernel
theorem dX7_copies_22 : decode cX7_copies 22 = .ok (.iaload, 1) := by decide +kernel
theorem dX7_copies_23 : decode cX7_copies 23 = .ok (.iastore, 1) := by decide +kernel
theorem dX7_copies_24 : decode cX7_copies 24 = .ok (.iinc 3 1, 3) := by decide +kernel
theorem dX7_copies_27 : decode cX7_copies 27 = .ok (.goto (-25), 3) := by decide +kernel
theorem dX7_copies_30 : decode cX7_copies 30 = .ok (.return_, 1) := by decide +kernel
theorem dX7_stepsGo_0 : decode cX7_stepsGo 0 = .ok (.aload_n 0, 1) := by decide +kernel
theorem dX7_stepsGo_1 : decode cX7_stepsGo 1 = .ok (.iload_n 1, 1) := by decide +kernel
theorem dX7_stepsGo_2 : decode cX7_stepsGo 2 = .ok (.sipush 300, 3) := by decide +kernel
theorem dX7_stepsGo_5 : decode cX7_stepsGo 5 = .ok (.invokevirtual 193, 3) := by decide +kernel
theorem dX7_stepsGo_8 : decode cX7_stepsGo 8 = .ok (.aload_n 0, 1) := by decide +kernel
theorem dX7_stepsGo_9 : decode cX7_stepsGo 9 = .ok (.invokevirtual 183, 3) := by decide +kernel
theorem dX7_stepsGo_12 : decode cX7_stepsGo 12 = .ok (.iconst 0, 1) := by decide +kernel
theorem dX7_stepsGo_13 : decode cX7_stepsGo 13 = .ok (.istore_n 3, 1) := by decide +kernel
theorem dX7_stepsGo_14 : decode cX7_stepsGo 14 = .ok (.iload_n 3, 1) := by decide +kernel
theorem dX7_stepsGo_15 : decode cX7_stepsGo 15 = .ok (.iload_n 2, 1) := by decide +kernel
theorem dX7_stepsGo_16 : decode cX7_stepsGo 16 = .ok (.if_icmp .ge 17, 3) := by decide +kernel
theorem dX7_stepsGo_19 : decode cX7_stepsGo 19 = .ok (.aload_n 0, 1) := by decide +kernel
theorem dX7_stepsGo_20 : decode cX7_stepsGo 20 = .ok (.sipush 300, 3) := by decide +kernel
theorem dX7_stepsGo_23 : decode cX7_stepsGo 23 = .ok (.iconst 0, 1) := by decide +kernel
theorem dX7_stepsGo_24 : decode cX7_stepsGo 24 = .ok (.invokevirtual 186, 3) := by decide +kernel
theorem dX7_stepsGo_27 : decode cX7_stepsGo 27 = .ok (.iinc 3 1, 3) := by decide +kernel
theorem dX7_stepsGo_30 : decode cX7_stepsGo 30 = .ok (.goto (-16), 3) := by decide +kernel
theorem dX7_stepsGo_33 : decode cX7_stepsGo 33 = .ok (.aload_n 0, 1) := by decide +kernel
theorem dX7_stepsGo_34 : decode cX7_stepsGo 34 = .ok (.invokevirtual 190, 3) := by decide +kernel
theorem dX7_stepsGo_37 : decode cX7_stepsGo 37 = .ok (.ireturn, 1) := by decide +kernel
theorem dX7_runs_0 : decode cX7_runs 0 = .ok (.iload_n 1, 1) := by decide +kernel
theorem dX7_runs_1 : decode cX7_runs 1 = .ok (.i2l, 1) := by decide +kernel
theorem dX7_runs_2 : decode cX7_runs 2 = .ok (.lconst 0, 1) := by decide +kernel
theorem dX7_runs_3 : decode cX7_runs 3 = .ok (.ldc2_w 197, 3) := by decide +kernel
theorem dX7_runs_6 : decode cX7_runs 6 = .ok (.invokestatic 56, 3) := by decide +kernel
theorem dX7_runs_9 : decode cX7_runs 9 = .ok (.ifCond .eq 15, 3) := by decide +kernel
theorem dX7_runs_12 : decode cX7_runs 12 = .ok (.iload_n 2, 1) := by decide +kernel
theorem dX7_runs_13 : decode cX7_runs 13 = .ok (.i2l, 1) := by decide +kernel
theorem dX7_runs_14 : decode cX7_runs 14 = .ok (.lconst 0, 1) := by decide +kernel
theorem dX7_runs_15 : decode cX7_runs 15 = .ok (.ldc2_w 172, 3) := by decide +kernel
theorem dX7_runs_18 : decode cX7_runs 18 = .ok (.invokestatic 56, 3) := by decide +kernel
theorem dX7_runs_21 : decode cX7_runs 21 = .ok (.ifCond .ne 5, 3) := by decide +kernel
theorem dX7_runs_24 : decode cX7_runs 24 = .ok (.iconst (-1), 1) := by decide +kernel
theorem dX7_runs_25 : decode cX7_runs 25 = .ok (.ireturn, 1) := by decide +kernel
theorem dX7_runs_26 : decode cX7_runs 26 = .ok (.aload_n 0, 1) := by decide +kernel
theorem dX7_runs_27 : decode cX7_runs 27 = .ok (.iconst 0, 1) := by decide +kernel
theorem dX7_runs_28 : decode cX7_runs 28 = .ok (.iload_n 1, 1) := by decide +kernel
theorem dX7_runs_29 : decode cX7_runs 29 = .ok (.invokevirtual 199, 3) := by decide +kernel
theorem dX7_runs_32 : decode cX7_runs 32 = .ok (.istore_n 3, 1) := by decide +kernel
theorem dX7_runs_33 : decode cX7_runs 33 = .ok (.iload_n 2, 1) := by decide +kernel
theorem dX7_runs_34 : decode cX7_runs 34 = .ok (.ifCond .ne 7, 3) := by decide +kernel
theorem dX7_runs_37 : decode cX7_runs 37 = .ok (.iload_n 3, 1) := by decide +kernel
theorem dX7_runs_38 : decode cX7_runs 38 = .ok (.goto 31, 3) := by decide +kernel
theorem dX7_runs_41 : decode cX7_runs 41 = .ok (.iload_n 2, 1) := by decide +kernel
theorem dX7_runs_42 : decode cX7_runs 42 = .ok (.iconst 1, 1) := by decide +kernel
theorem dX7_runs_43 : decode cX7_runs 43 = .ok (.if_icmp .ne 10, 3) := by decide +kernel
theorem dX7_runs_46 : decode cX7_runs 46 = .ok (.aload_n 0, 1) := by decide +kernel
theorem dX7_runs_47 : decode cX7_runs 47 = .ok (.invokevirtual 202, 3) := by decide +kernel
theorem dX7_runs_50 : decode cX7_runs 50 = .ok (.goto 19, 3) := by decide +kernel
theorem dX7_runs_53 : decode cX7_runs 53 = .ok (.iload_n 2, 1) := by decide +kernel
theorem dX7_runs_54 : decode cX7_runs 54 = .ok (.iconst 2, 1) := by decide +kernel
theorem dX7_runs_55 : decode cX7_runs 55 = .ok (.if_icmp .ne 10, 3) := by decide +kernel
theorem dX7_runs_58 : decode cX7_runs 58 = .ok (.aload_n 0, 1) := by decide +kernel
theorem dX7_runs_59 : decode cX7_runs 59 = .ok (.getfield 138, 3) := by decide +kernel
theorem dX7_runs_62 : decode cX7_runs 62 = .ok (.goto 7, 3) := by decide +kernel
theorem dX7_runs_65 : decode cX7_runs 65 = .ok (.aload_n 0, 1) := by decide +kernel
theorem dX7_runs_66 : decode cX7_runs 66 = .ok (.getfield 141, 3) := by decide +kernel
theorem dX7_runs_69 : decode cX7_runs 69 = .ok (.ireturn, 1) := by decide +kernel
theorem dX7_paid_0 : decode cX7_paid 0 = .ok (.aload_n 0, 1) := by decide +kernel
theorem dX7_paid_1 : decode cX7_paid 1 = .ok (.iload_n 1, 1) := by decide +kernel
theorem dX7_paid_2 : decode cX7_paid 2 = .ok (.invokevirtual 162, 3) := by decide +kernel
theorem dX7_paid_5 : decode cX7_paid 5 = .ok (.ifCond .eq 15, 3) := by decide +kernel
theorem dX7_paid_8 : decode cX7_paid 8 = .ok (.iload_n 2, 1) := by decide +kernel
theorem dX7_paid_9 : decode cX7_paid 9 = .ok (.i2l, 1) := by decide +kernel
theorem dX7_paid_10 : decode cX7_paid 10 = .ok (.lconst 0, 1) := by decide +kernel
theorem dX7_paid_11 : decode cX7_paid 11 = .ok (.ldc2_w 197, 3) := by decide +kernel
theorem dX7_paid_14 : decode cX7_paid 14 = .ok (.invokestatic 56, 3) := by decide +kernel
theorem dX7_paid_17 : decode cX7_paid 17 = .ok (.ifCond .ne 5, 3) := by decide +kernel
theorem dX7_paid_20 : decode cX7_paid 20 = .ok (.iconst (-1), 1) := by decide +kernel
theorem dX7_paid_21 : decode cX7_paid 21 = .ok (.ireturn, 1) := by decide +kernel
theorem dX7_paid_22 : decode cX7_paid 22 = .ok (.aload_n 0, 1) := by decide +kernel
theorem dX7_paid_23 : decode cX7_paid 23 = .ok (.iconst 0, 1) := by decide +kernel
theorem dX7_paid_24 : decode cX7_paid 24 = .ok (.iload_n 2, 1) := by decide +kernel
theorem dX7_paid_25 : decode cX7_paid 25 = .ok (.invokevirtual 199, 3) := by decide +kernel
theorem dX7_paid_28 : decode cX7_paid 28 = .ok (.pop, 1) := by decide +kernel
theorem dX7_paid_29 : decode cX7_paid 29 = .ok (.aload_n 0, 1) := by decide +kernel
theorem dX7_paid_30 : decode cX7_paid 30 = .ok (.getfield 29, 3) := by decide +kernel
theorem dX7_paid_33 : decode cX7_paid 33 = .ok (.iload_n 1, 1) := by decide +kernel
theorem dX7_paid_34 : decode cX7_paid 34 = .ok (.iaload, 1) := by decide +kernel
theorem dX7_paid_35 : decode cX7_paid 35 = .ok (.ireturn, 1) := by decide +kernel
theorem dX7_ahead_0 : decode cX7_ahead 0 = .ok (.aload_n 0, 1) := by decide +kernel
theorem dX7_ahead_1 : decode cX7_ahead 1 = .ok (.iload_n 1, 1) := by decide +kernel
theorem dX7_ahead_2 : decode cX7_ahead 2 = .ok (.invokevirtual 162, 3) := by decide +kernel
theorem dX7_ahead_5 : decode cX7_ahead 5 = .ok (.ifCond .eq 23, 3) := by decide +kernel
theorem dX7_ahead_8 : decode cX7_ahead 8 = .ok (.iload_n 2, 1) := by decide +kernel
theorem dX7_ahead_9 : decode cX7_ahead 9 = .ok (.i2l, 1) := by decide +kernel
theorem dX7_ahead_10 : decode cX7_ahead 10 = .ok (.lconst 0, 1) := by decide +kernel
theorem dX7_ahead_11 : decode cX7_ahead 11 = .ok (.ldc2_w 197, 3) := by decide +kernel
theorem dX7_ahead_14 : decode cX7_ahead 14 = .ok (.invokestatic 56, 3) := by decide +kernel
theorem dX7_ahead_17 : decode cX7_ahead 17 = .ok (.ifCond .eq 11, 3) := by decide +kernel
theorem dX7_ahead_20 : decode cX7_ahead 20 = .ok (.aload_n 0, 1) := by decide +kernel
theorem dX7_ahead_21 : decode cX7_ahead 21 = .ok (.iload_n 3, 1) := by decide +kernel
theorem dX7_ahead_22 : decode cX7_ahead 22 = .ok (.invokevirtual 166, 3) := by decide +kernel
theorem dX7_ahead_25 : decode cX7_ahead 25 = .ok (.ifCond .ne 5, 3) := by decide +kernel
theorem dX7_ahead_28 : decode cX7_ahead 28 = .ok (.iconst (-1), 1) := by decide +kernel
theorem dX7_ahead_29 : decode cX7_ahead 29 = .ok (.ireturn, 1) := by decide +kernel
theorem dX7_ahead_30 : decode cX7_ahead 30 = .ok (.aload_n 0, 1) := by decide +kernel
theorem dX7_ahead_31 : decode cX7_ahead 31 = .ok (.iconst 0, 1) := by decide +kernel
theorem dX7_ahead_32 : decode cX7_ahead 32 = .ok (.iload_n 2, 1) := by decide +kernel
theorem dX7_ahead_33 : decode cX7_ahead 33 = .ok (.invokevirtual 199, 3) := by decide +kernel
theorem dX7_ahead_36 : decode cX7_ahead 36 = .ok (.pop, 1) := by decide +kernel
theorem dX7_ahead_37 : decode cX7_ahead 37 = .ok (.aload_n 0, 1) := by decide +kernel
theorem dX7_ahead_38 : decode cX7_ahead 38 = .ok (.getfield 7, 3) := by decide +kernel
theorem dX7_ahead_41 : decode cX7_ahead 41 = .ok (.sipush 327, 3) := by decide +kernel
theorem dX7_ahead_44 : decode cX7_ahead 44 = .ok (.bipush 6, 2) := by decide +kernel
theorem dX7_ahead_46 : decode cX7_ahead 46 = .ok (.iload_n 1, 1) := by decide +kernel
theorem dX7_ahead_47 : decode cX7_ahead 47 = .ok (.imul, 1) := by decide +kernel
theorem dX7_ahead_48 : decode cX7_ahead 48 = .ok (.iadd, 1) := by decide +kernel
theorem dX7_ahead_49 : decode cX7_ahead 49 = .ok (.iload_n 3, 1) := by decide +kernel
theorem dX7_ahead_50 : decode cX7_ahead 50 = .ok (.iadd, 1) := by decide +kernel
theorem dX7_ahead_51 : decode cX7_ahead 51 = .ok (.iaload, 1) := by decide +kernel
theorem dX7_ahead_52 : decode cX7_ahead 52 = .ok (.ireturn, 1) := by decide +kernel
theorem dX7_when_0 : decode cX7_when 0 = .ok (.aload_n 0, 1) := by decide +kernel
theorem dX7_when_1 : decode cX7_when 1 = .ok (.iload_n 1, 1) := by decide +kernel
theorem dX7_when_2 : decode cX7_when 2 = .ok (.invokevirtual 162, 3) := by decide +kernel
theorem dX7_when_5 : decode cX7_when 5 = .ok (.ifCond .eq 11, 3) := by decide +kernel
theorem dX7_when_8 : decode cX7_when 8 = .ok (.aload_n 0, 1) := by decide +kernel
theorem dX7_when_9 : decode cX7_when 9 = .ok (.iload_n 2, 1) := by decide +kernel
theorem dX7_when_10 : decode cX7_when 10 = .ok (.invokevirtual 166, 3) := by decide +kernel
theorem dX7_when_13 : decode cX7_when 13 = .ok (.ifCond .ne 5, 3) := by decide +kernel
theorem dX7_when_16 : decode cX7_when 16 = .ok (.iconst (-1), 1) := by decide +kernel
theorem dX7_when_17 : decode cX7_when 17 = .ok (.ireturn, 1) := by decide +kernel
theorem dX7_when_18 : decode cX7_when 18 = .ok (.aload_n 0, 1) := by decide +kernel
theorem dX7_when_19 : decode cX7_when 19 = .ok (.iconst 0, 1) := by decide +kernel
theorem dX7_when_20 : decode cX7_when 20 = .ok (.sipush 300, 3) := by decide +kernel
theorem dX7_when_23 : decode cX7_when 23 = .ok (.invokevirtual 193, 3) := by decide +kernel
theorem dX7_when_26 : decode cX7_when 26 = .ok (.iconst 0, 1) := by decide +kernel
theorem dX7_when_27 : decode cX7_when 27 = .ok (.istore_n 3, 1) := by decide +kernel
theorem dX7_when_28 : decode cX7_when 28 = .ok (.iload_n 3, 1) := by decide +kernel
theorem dX7_when_29 : decode cX7_when 29 = .ok (.sipush 200, 3) := by decide +kernel
theorem dX7_when_32 : decode cX7_when 32 = .ok (.if_icmp .gt 36, 3) := by decide +kernel
theorem dX7_when_35 : decode cX7_when 35 = .ok (.aload_n 0, 1) := by decide +kernel
theorem dX7_when_36 : decode cX7_when 36 = .ok (.getfield 7, 3) := by decide +kernel
theorem dX7_when_39 : decode cX7_when 39 = .ok (.sipush 327, 3) := by decide +kernel
theorem dX7_when_42 : decode cX7_when 42 = .ok (.bipush 6, 2) := by decide +kernel
theorem dX7_when_44 : decode cX7_when 44 = .ok (.iload_n 1, 1) := by decide +kernel
theorem dX7_when_45 : decode cX7_when 45 = .ok (.imul, 1) := by decide +kernel
theorem dX7_when_46 : decode cX7_when 46 = .ok (.iadd, 1) := by decide +kernel
theorem dX7_when_47 : decode cX7_when 47 = .ok (.iaload, 1) := by decide +kernel
theorem dX7_when_48 : decode cX7_when 48 = .ok (.iload_n 2, 1) := by decide +kernel
theorem dX7_when_49 : decode cX7_when 49 = .ok (.if_icmp .ne 5, 3) := by decide +kernel
theorem dX7_when_52 : decode cX7_when 52 = .ok (.iload_n 3, 1) := by decide +kernel
theorem dX7_when_53 : decode cX7_when 53 = .ok (.ireturn, 1) := by decide +kernel
theorem dX7_when_54 : decode cX7_when 54 = .ok (.aload_n 0, 1) := by decide +kernel
theorem dX7_when_55 : decode cX7_when 55 = .ok (.sipush 300, 3) := by decide +kernel
theorem dX7_when_58 : decode cX7_when 58 = .ok (.iconst 0, 1) := by decide +kernel
theorem dX7_when_59 : decode cX7_when 59 = .ok (.invokevirtual 186, 3) := by decide +kernel
theorem dX7_when_62 : decode cX7_when 62 = .ok (.iinc 3 1, 3) := by decide +kernel
theorem dX7_when_65 : decode cX7_when 65 = .ok (.goto (-37), 3) := by decide +kernel
theorem dX7_when_68 : decode cX7_when 68 = .ok (.bipush (-4), 2) := by decide +kernel
theorem dX7_when_70 : decode cX7_when 70 = .ok (.ireturn, 1) := by decide +kernel
theorem dX7_again_0 : decode cX7_again 0 = .ok (.aload_n 0, 1) := by decide +kernel
theorem dX7_again_1 : decode cX7_again 1 = .ok (.iconst 0, 1) := by decide +kernel
theorem dX7_again_2 : decode cX7_again 2 = .ok (.sipush 300, 3) := by decide +kernel
theorem dX7_again_5 : decode cX7_again 5 = .ok (.invokevirtual 193, 3) := by decide +kernel
theorem dX7_again_8 : decode cX7_again 8 = .ok (.aload_n 0, 1) := by decide +kernel
theorem dX7_again_9 : decode cX7_again 9 = .ok (.getfield 7, 3) := by decide +kernel
theorem dX7_again_12 : decode cX7_again 12 = .ok (.bipush 25, 2) := by decide +kernel
theorem dX7_again_14 : decode cX7_again 14 = .ok (.iaload, 1) := by decide +kernel
theorem dX7_again_15 : decode cX7_again 15 = .ok (.istore_n 1, 1) := by decide +kernel
theorem dX7_again_16 : decode cX7_again 16 = .ok (.iconst 1, 1) := by decide +kernel
theorem dX7_again_17 : decode cX7_again 17 = .ok (.istore_n 2, 1) := by decide +kernel
theorem dX7_again_18 : decode cX7_again 18 = .ok (.iload_n 2, 1) := by decide +kernel
theorem dX7_again_19 : decode cX7_again 19 = .ok (.sipush 200, 3) := by decide +kernel
theorem dX7_again_22 : decode cX7_again 22 = .ok (.if_icmp .gt 122, 3) := by decide +kernel
theorem dX7_again_25 : decode cX7_again 25 = .ok (.aload_n 0, 1) := by decide +kernel
theorem dX7_again_26 : decode cX7_again 26 = .ok (.sipush 300, 3) := by decide +kernel
theorem dX7_again_29 : decode cX7_again 29 = .ok (.iconst 0, 1) := by decide +kernel
theorem dX7_again_30 : decode cX7_again 30 = .ok (.invokevirtual 186, 3) := by decide +kernel
theorem dX7_again_33 : decode cX7_again 33 = .ok (.iload_n 1, 1) := by decide +kernel
theorem dX7_again_34 : decode cX7_again 34 = .ok (.ifCond .eq 9, 3) := by decide +kernel
theorem dX7_again_37 : decode cX7_again 37 = .ok (.iload_n 2, 1) := by decide +kernel
theorem dX7_again_38 : decode cX7_again 38 = .ok (.iload_n 1, 1) := by decide +kernel
theorem dX7_again_39 : decode cX7_again 39 = .ok (.irem, 1) := by decide +kernel
theorem dX7_again_40 : decode cX7_again 40 = .ok (.ifCond .ne 7, 3) := by decide +kernel
theorem dX7_again_43 : decode cX7_again 43 = .ok (.iconst 1, 1) := by decide +kernel
theorem dX7_again_44 : decode cX7_again 44 = .ok (.goto 4, 3) := by decide +kernel
theorem dX7_again_47 : decode cX7_again 47 = .ok (.iconst 0, 1) := by decide +kernel
theorem dX7_again_48 : decode cX7_again 48 = .ok (.istore_n 3, 1) := by decide +kernel
theorem dX7_again_49 : decode cX7_again 49 = .ok (.iconst 0, 1) := by decide +kernel
theorem dX7_again_50 : decode cX7_again 50 = .ok (.istore 4, 2) := by decide +kernel
theorem dX7_again_52 : decode cX7_again 52 = .ok (.iload 4, 2) := by decide +kernel
theorem dX7_again_54 : decode cX7_again 54 = .ok (.aload_n 0, 1) := by decide +kernel
theorem dX7_again_55 : decode cX7_again 55 = .ok (.getfield 7, 3) := by decide +kernel
theorem dX7_again_58 : decode cX7_again 58 = .ok (.bipush 8, 2) := by decide +kernel
theorem dX7_again_60 : decode cX7_again 60 = .ok (.iaload, 1) := by decide +kernel
theorem dX7_again_61 : decode cX7_again 61 = .ok (.if_icmp .ge 71, 3) := by decide +kernel
theorem dX7_again_64 : decode cX7_again 64 = .ok (.iconst 0, 1) := by decide +kernel
theorem dX7_again_65 : decode cX7_again 65 = .ok (.istore 5, 2) := by decide +kernel
theorem dX7_again_67 : decode cX7_again 67 = .ok (.iload 5, 2) := by decide +kernel
theorem dX7_again_69 : decode cX7_again 69 = .ok (.aload_n 0, 1) := by decide +kernel
theorem dX7_again_70 : decode cX7_again 70 = .ok (.getfield 13, 3) := by decide +kernel
theorem dX7_again_73 : decode cX7_again 73 = .ok (.if_icmp .ge 53, 3) := by decide +kernel
theorem dX7_again_76 : decode cX7_again 76 = .ok (.bipush 27, 2) := by decide +kernel
theorem dX7_again_78 : decode cX7_again 78 = .ok (.bipush 6, 2) := by decide +kernel
theorem dX7_again_80 : decode cX7_again 80 = .ok (.iload 4, 2) := by decide +kernel
theorem dX7_again_82 : decode cX7_again 82 = .ok (.imul, 1) := by decide +kernel
theorem dX7_again_83 : decode cX7_again 83 = .ok (.iadd, 1) := by decide +kernel
theorem dX7_again_84 : decode cX7_again 84 = .ok (.iload 5, 2) := by decide +kernel
theorem dX7_again_86 : decode cX7_again 86 = .ok (.iadd, 1) := by decide +kernel
theorem dX7_again_87 : decode cX7_again 87 = .ok (.istore 6, 2) := by decide +kernel
theorem dX7_again_89 : decode cX7_again 89 = .ok (.iload_n 3, 1) := by decide +kernel
theorem dX7_again_90 : decode cX7_again 90 = .ok (.ifCond .eq 28, 3) := by decide +kernel
theorem dX7_again_93 : decode cX7_again 93 = .ok (.aload_n 0, 1) := by decide +kernel
theorem dX7_again_94 : decode cX7_again 94 = .ok (.getfield 7, 3) := by decide +kernel
theorem dX7_again_97 : decode cX7_again 97 = .ok (.sipush 300, 3) := by decide +kernel
theorem dX7_again_100 : decode cX7_again 100 = .ok (.iload 6, 2) := by decide +kernel
theorem dX7_again_102 : decode cX7_again 102 = .ok (.iadd, 1) := by decide +kernel
theorem dX7_again_103 : decode cX7_again 103 = .ok (.iaload, 1) := by decide +kernel
theorem dX7_again_104 : decode cX7_again 104 = .ok (.aload_n 0, 1) := by decide +kernel
theorem dX7_again_105 : decode cX7_again 105 = .ok (.getfield 7, 3) := by decide +kernel
theorem dX7_again_108 : decode cX7_again 108 = .ok (.iload 6, 2) := by decide +kernel
theorem dX7_again_110 : decode cX7_again 110 = .ok (.iaload, 1) := by decide +kernel
theorem dX7_again_111 : decode cX7_again 111 = .ok (.if_icmp .ne 7, 3) := by decide +kernel
theorem dX7_again_114 : decode cX7_again 114 = .ok (.iconst 1, 1) := by decide +kernel
theorem dX7_again_115 : decode cX7_again 115 = .ok (.goto 4, 3) := by decide +kernel
theorem dX7_again_118 : decode cX7_again 118 = .ok (.iconst 0, 1) := by decide +kernel
theorem dX7_again_119 : decode cX7_again 119 = .ok (.istore_n 3, 1) := by decide +kernel
theorem dX7_again_120 : decode cX7_again 120 = .ok (.iinc 5 1, 3) := by decide +kernel
theorem dX7_again_123 : decode cX7_again 123 = .ok (.goto (-56), 3) := by decide +kernel
theorem dX7_again_126 : decode cX7_again 126 = .ok (.iinc 4 1, 3) := by decide +kernel
theorem dX7_again_129 : decode cX7_again 129 = .ok (.goto (-77), 3) := by decide +kernel
theorem dX7_again_132 : decode cX7_again 132 = .ok (.iload_n 3, 1) := by decide +kernel
theorem dX7_again_133 : decode cX7_again 133 = .ok (.ifCond .eq 5, 3) := by decide +kernel
theorem dX7_again_136 : decode cX7_again 136 = .ok (.iload_n 2, 1) := by decide +kernel
theorem dX7_again_137 : decode cX7_again 137 = .ok (.ireturn, 1) := by decide +kernel
theorem dX7_again_138 : decode cX7_again 138 = .ok (.iinc 2 1, 3) := by decide +kernel
theorem dX7_again_141 : decode cX7_again 141 = .ok (.goto (-123), 3) := by decide +kernel
theorem dX7_again_144 : decode cX7_again 144 = .ok (.bipush (-4), 2) := by decide +kernel
theorem dX7_again_146 : decode cX7_again 146 = .ok (.ireturn, 1) := by decide +kernel
theorem dX7_ordered_0 : decode cX7_ordered 0 = .ok (.iconst 0, 1) := by decide +kernel
theorem dX7_ordered_1 : decode cX7_ordered 1 = .ok (.istore_n 3, 1) := by decide +kernel
theorem dX7_ordered_2 : decode cX7_ordered 2 = .ok (.iload_n 2, 1) := by decide +kernel
theorem dX7_ordered_3 : decode cX7_ordered 3 = .ok (.istore 4, 2) := by decide +kernel
theorem dX7_ordered_5 : decode cX7_ordered 5 = .ok (.aload_n 0, 1) := by decide +kernel
theorem dX7_ordered_6 : decode cX7_ordered 6 = .ok (.iconst 0, 1) := by decide +kernel
theorem dX7_ordered_7 : decode cX7_ordered 7 = .ok (.sipush 375, 3) := by decide +kernel
theorem dX7_ordered_10 : decode cX7_ordered 10 = .ok (.invokevirtual 193, 3) := by decide +kernel
theorem dX7_ordered_13 : decode cX7_ordered 13 = .ok (.aload_n 0, 1) := by decide +kernel
theorem dX7_ordered_14 : decode cX7_ordered 14 = .ok (.getfield 13, 3) := by decide +kernel
theorem dX7_ordered_17 : decode cX7_ordered 17 = .ok (.iconst 1, 1) := by decide +kernel
theorem dX7_ordered_18 : decode cX7_ordered 18 = .ok (.isub, 1) := by decide +kernel
theorem dX7_ordered_19 : decode cX7_ordered 19 = .ok (.istore 5, 2) := by decide +kernel
theorem dX7_ordered_21 : decode cX7_ordered 21 = .ok (.iload 5, 2) := by decide +kernel
theorem dX7_ordered_23 : decode cX7_ordered 23 = .ok (.ifCond .lt 53, 3) := by decide +kernel
theorem dX7_ordered_26 : decode cX7_ordered 26 = .ok (.iload_n 3, 1) := by decide +kernel
theorem dX7_ordered_27 : decode cX7_ordered 27 = .ok (.iconst 1, 1) := by decide +kernel
theorem dX7_ordered_28 : decode cX7_ordered 28 = .ok (.iload 4, 2) := by decide +kernel
theorem dX7_ordered_30 : decode cX7_ordered 30 = .ok (.aload_n 0, 1) := by decide +kernel
theorem dX7_ordered_31 : decode cX7_ordered 31 = .ok (.getfield 13, 3) := by decide +kernel
theorem dX7_ordered_34 : decode cX7_ordered 34 = .ok (.irem, 1) := by decide +kernel
theorem dX7_ordered_35 : decode cX7_ordered 35 = .ok (.ishl, 1) := by decide +kernel
theorem dX7_ordered_36 : decode cX7_ordered 36 = .ok (.ior, 1) := by decide +kernel
theorem dX7_ordered_37 : decode cX7_ordered 37 = .ok (.istore_n 3, 1) := by decide +kernel
theorem dX7_ordered_38 : decode cX7_ordered 38 = .ok (.aload_n 0, 1) := by decide +kernel
theorem dX7_ordered_39 : decode cX7_ordered 39 = .ok (.getfield 7, 3) := by decide +kernel
theorem dX7_ordered_42 : decode cX7_ordered 42 = .ok (.sipush 402, 3) := by decide +kernel
theorem dX7_ordered_45 : decode cX7_ordered 45 = .ok (.bipush 6, 2) := by decide +kernel
theorem dX7_ordered_47 : decode cX7_ordered 47 = .ok (.iload_n 1, 1) := by decide +kernel
theorem dX7_ordered_48 : decode cX7_ordered 48 = .ok (.imul, 1) := by decide +kernel
theorem dX7_ordered_49 : decode cX7_ordered 49 = .ok (.iadd, 1) := by decide +kernel
theorem dX7_ordered_50 : decode cX7_ordered 50 = .ok (.iload 5, 2) := by decide +kernel
theorem dX7_ordered_52 : decode cX7_ordered 52 = .ok (.iadd, 1) := by decide +kernel
theorem dX7_ordered_53 : decode cX7_ordered 53 = .ok (.iload 4, 2) := by decide +kernel
theorem dX7_ordered_55 : decode cX7_ordered 55 = .ok (.aload_n 0, 1) := by decide +kernel
theorem dX7_ordered_56 : decode cX7_ordered 56 = .ok (.getfield 13, 3) := by decide +kernel
theorem dX7_ordered_59 : decode cX7_ordered 59 = .ok (.irem, 1) := by decide +kernel
theorem dX7_ordered_60 : decode cX7_ordered 60 = .ok (.iastore, 1) := by decide +kernel
theorem dX7_ordered_61 : decode cX7_ordered 61 = .ok (.iload 4, 2) := by decide +kernel
theorem dX7_ordered_63 : decode cX7_ordered 63 = .ok (.aload_n 0, 1) := by decide +kernel
theorem dX7_ordered_64 : decode cX7_ordered 64 = .ok (.getfield 13, 3) := by decide +kernel
theorem dX7_ordered_67 : decode cX7_ordered 67 = .ok (.idiv, 1) := by decide +kernel
theorem dX7_ordered_68 : decode cX7_ordered 68 = .ok (.istore 4, 2) := by decide +kernel
theorem dX7_ordered_70 : decode cX7_ordered 70 = .ok (.iinc 5 (-1), 3) := by decide +kernel
theorem dX7_ordered_73 : decode cX7_ordered 73 = .ok (.goto (-52), 3) := by decide +kernel
theorem dX7_ordered_76 : decode cX7_ordered 76 = .ok (.iload_n 3, 1) := by decide +kernel
theorem dX7_ordered_77 : decode cX7_ordered 77 = .ok (.iconst 1, 1) := by decide +kernel
theorem dX7_ordered_78 : decode cX7_ordered 78 = .ok (.aload_n 0, 1) := by decide +kernel
theorem dX7_ordered_79 : decode cX7_ordered 79 = .ok (.getfield 13, 3) := by decide +kernel
theorem dX7_ordered_82 : decode cX7_ordered 82 = .ok (.ishl, 1) := by decide +kernel
theorem dX7_ordered_83 : decode cX7_ordered 83 = .ok (.iconst 1, 1) := by decide +kernel
theorem dX7_ordered_84 : decode cX7_ordered 84 = .ok (.isub, 1) := by decide +kernel
theorem dX7_ordered_85 : decode cX7_ordered 85 = .ok (.if_icmp .ne 7, 3) := by decide +kernel
theorem dX7_ordered_88 : decode cX7_ordered 88 = .ok (.iconst 1, 1) := by decide +kernel
theorem dX7_ordered_89 : decode cX7_ordered 89 = .ok (.goto 4, 3) := by decide +kernel
theorem dX7_ordered_92 : decode cX7_ordered 92 = .ok (.iconst 0, 1) := by decide +kernel
theorem dX7_ordered_93 : decode cX7_ordered 93 = .ok (.ireturn, 1) := by decide +kernel
theorem dX7_isRow_0 : decode cX7_isRow 0 = .ok (.iconst 0, 1) := by decide +kernel
theorem dX7_isRow_1 : decode cX7_isRow 1 = .ok (.istore_n 2, 1) := by decide +kernel
theorem dX7_isRow_2 : decode cX7_isRow 2 = .ok (.iload_n 1, 1) := by decide +kernel
theorem dX7_isRow_3 : decode cX7_isRow 3 = .ok (.istore_n 3, 1) := by decide +kernel
theorem dX7_isRow_4 : decode cX7_isRow 4 = .ok (.iconst 0, 1) := by decide +kernel
theorem dX7_isRow_5 : decode cX7_isRow 5 = .ok (.istore 4, 2) := by decide +kernel
theorem dX7_isRow_7 : decode cX7_isRow 7 = .ok (.iload 4, 2) := by decide +kernel
theorem dX7_isRow_9 : decode cX7_isRow 9 = .ok (.aload_n 0, 1) := by decide +kernel
theorem dX7_isRow_10 : decode cX7_isRow 10 = .ok (.getfield 13, 3) := by decide +kernel
theorem dX7_isRow_13 : decode cX7_isRow 13 = .ok (.if_icmp .ge 27, 3) := by decide +kernel
theorem dX7_isRow_16 : decode cX7_isRow 16 = .ok (.iload_n 2, 1) := by decide +kernel
theorem dX7_isRow_17 : decode cX7_isRow 17 = .ok (.iconst 1, 1) := by decide +kernel
theorem dX7_isRow_18 : decode cX7_isRow 18 = .ok (.iload_n 3, 1) := by decide +kernel
theorem dX7_isRow_19 : decode cX7_isRow 19 = .ok (.aload_n 0, 1) := by decide +kernel
theorem dX7_isRow_20 : decode cX7_isRow 20 = .ok (.getfield 13, 3) := by decide +kernel
theorem dX7_isRow_23 : decode cX7_isRow 23 = .ok (.irem, 1) := by decide +kernel
theorem dX7_isRow_24 : decode cX7_isRow 24 = .ok (.ishl, 1) := by decide +kernel
theorem dX7_isRow_25 : decode cX7_isRow 25 = .ok (.ior, 1) := by decide +kernel
theorem dX7_isRow_26 : decode cX7_isRow 26 = .ok (.istore_n 2, 1) := by decide +kernel
theorem dX7_isRow_27 : decode cX7_isRow 27 = .ok (.iload_n 3, 1) := by decide +kernel
theorem dX7_isRow_28 : decode cX7_isRow 28 = .ok (.aload_n 0, 1) := by decide +kernel
theorem dX7_isRow_29 : decode cX7_isRow 29 = .ok (.getfield 13, 3) := by decide +kernel
theorem dX7_isRow_32 : decode cX7_isRow 32 = .ok (.idiv, 1) := by decide +kernel
theorem dX7_isRow_33 : decode cX7_isRow 33 = .ok (.istore_n 3, 1) := by decide +kernel
theorem dX7_isRow_34 : decode cX7_isRow 34 = .ok (.iinc 4 1, 3) := by decide +kernel
theorem dX7_isRow_37 : decode cX7_isRow 37 = .ok (.goto (-30), 3) := by decide +kernel
theorem dX7_isRow_40 : decode cX7_isRow 40 = .ok (.iload_n 2, 1) := by decide +kernel
theorem dX7_isRow_41 : decode cX7_isRow 41 = .ok (.iconst 1, 1) := by decide +kernel
theorem dX7_isRow_42 : decode cX7_isRow 42 = .ok (.aload_n 0, 1) := by decide +kernel
theorem dX7_isRow_43 : decode cX7_isRow 43 = .ok (.getfield 13, 3) := by decide +kernel
theorem dX7_isRow_46 : decode cX7_isRow 46 = .ok (.ishl, 1) := by decide +kernel
theorem dX7_isRow_47 : decode cX7_isRow 47 = .ok (.iconst 1, 1) := by decide +kernel
theorem dX7_isRow_48 : decode cX7_isRow 48 = .ok (.isub, 1) := by decide +kernel
theorem dX7_isRow_49 : decode cX7_isRow 49 = .ok (.if_icmp .ne 7, 3) := by decide +kernel
theorem dX7_isRow_52 : decode cX7_isRow 52 = .ok (.iconst 1, 1) := by decide +kernel
theorem dX7_isRow_53 : decode cX7_isRow 53 = .ok (.goto 4, 3) := by decide +kernel
theorem dX7_isRow_56 : decode cX7_isRow 56 = .ok (.iconst 0, 1) := by decide +kernel
theorem dX7_isRow_57 : decode cX7_isRow 57 = .ok (.ireturn, 1) := by decide +kernel
theorem dX7_order_0 : decode cX7_order 0 = .ok (.aload_n 0, 1) := by decide +kernel
theorem dX7_order_1 : decode cX7_order 1 = .ok (.iload_n 1, 1) := by decide +kernel
theorem dX7_order_2 : decode cX7_order 2 = .ok (.invokevirtual 162, 3) := by decide +kernel
theorem dX7_order_5 : decode cX7_order 5 = .ok (.ifCond .eq 18, 3) := by decide +kernel
theorem dX7_order_8 : decode cX7_order 8 = .ok (.iload_n 2, 1) := by decide +kernel
theorem dX7_order_9 : decode cX7_order 9 = .ok (.ifCond .eq 16, 3) := by decide +kernel
theorem dX7_order_12 : decode cX7_order 12 = .ok (.aload_n 0, 1) := by decide +kernel
theorem dX7_order_13 : decode cX7_order 13 = .ok (.iload_n 2, 1) := by decide +kernel
theorem dX7_order_14 : decode cX7_order 14 = .ok (.bipush 10, 2) := by decide +kernel
theorem dX7_order_16 : decode cX7_order 16 = .ok (.isub, 1) := by decide +kernel
theorem dX7_order_17 : decode cX7_order 17 = .ok (.invokevirtual 166, 3) := by decide +kernel
theorem dX7_order_20 : decode cX7_order 20 = .ok (.ifCond .ne 5, 3) := by decide +kernel
theorem dX7_order_23 : decode cX7_order 23 = .ok (.iconst (-1), 1) := by decide +kernel
theorem dX7_order_24 : decode cX7_order 24 = .ok (.ireturn, 1) := by decide +kernel
theorem dX7_order_25 : decode cX7_order 25 = .ok (.iconst 1, 1) := by decide +kernel
theorem dX7_order_26 : decode cX7_order 26 = .ok (.istore_n 3, 1) := by decide +kernel
theorem dX7_order_27 : decode cX7_order 27 = .ok (.iconst 0, 1) := by decide +kernel
theorem dX7_order_28 : decode cX7_order 28 = .ok (.istore 4, 2) := by decide +kernel
theorem dX7_order_30 : decode cX7_order 30 = .ok (.iload 4, 2) := by decide +kernel
theorem dX7_order_32 : decode cX7_order 32 = .ok (.aload_n 0, 1) := by decide +kernel
theorem dX7_order_33 : decode cX7_order 33 = .ok (.getfield 13, 3) := by decide +kernel
theorem dX7_order_36 : decode cX7_order 36 = .ok (.if_icmp .ge 16, 3) := by decide +kernel
theorem dX7_order_39 : decode cX7_order 39 = .ok (.iload_n 3, 1) := by decide +kernel
theorem dX7_order_40 : decode cX7_order 40 = .ok (.aload_n 0, 1) := by decide +kernel
theorem dX7_order_41 : decode cX7_order 41 = .ok (.getfield 13, 3) := by decide +kernel
theorem dX7_order_44 : decode cX7_order 44 = .ok (.imul, 1) := by decide +kernel
theorem dX7_order_45 : decode cX7_order 45 = .ok (.istore_n 3, 1) := by decide +kernel
theorem dX7_order_46 : decode cX7_order 46 = .ok (.iinc 4 1, 3) := by decide +kernel
theorem dX7_order_49 : decode cX7_order 49 = .ok (.goto (-19), 3) := by decide +kernel
theorem dX7_order_52 : decode cX7_order 52 = .ok (.ldc 205, 2) := by decide +kernel
theorem dX7_order_54 : decode cX7_order 54 = .ok (.istore 4, 2) := by decide +kernel
theorem dX7_order_56 : decode cX7_order 56 = .ok (.iconst 0, 1) := by decide +kernel
theorem dX7_order_57 : decode cX7_order 57 = .ok (.istore 5, 2) := by decide +kernel
theorem dX7_order_59 : decode cX7_order 59 = .ok (.iconst 0, 1) := by decide +kernel
theorem dX7_order_60 : decode cX7_order 60 = .ok (.istore 6, 2) := by decide +kernel
theorem dX7_order_62 : decode cX7_order 62 = .ok (.iload 6, 2) := by decide +kernel
theorem dX7_order_64 : decode cX7_order 64 = .ok (.iload_n 3, 1) := by decide +kernel
theorem dX7_order_65 : decode cX7_order 65 = .ok (.if_icmp .ge 87, 3) := by decide +kernel
theorem dX7_order_68 : decode cX7_order 68 = .ok (.aload_n 0, 1) := by decide +kernel
theorem dX7_order_69 : decode cX7_order 69 = .ok (.iload 6, 2) := by decide +kernel
theorem dX7_order_71 : decode cX7_order 71 = .ok (.invokevirtual 206, 3) := by decide +kernel
theorem dX7_order_74 : decode cX7_order 74 = .ok (.ifCond .eq 72, 3) := by decide +kernel
theorem dX7_order_77 : decode cX7_order 77 = .ok (.aload_n 0, 1) := by decide +kernel
theorem dX7_order_78 : decode cX7_order 78 = .ok (.iload_n 1, 1) := by decide +kernel
theorem dX7_order_79 : decode cX7_order 79 = .ok (.iload 6, 2) := by decide +kernel
