theorem dX7_order_81 : decode cX7_order 81 = .ok (.invokevirtual 209, 3) := by decide +kernel
theorem dX7_order_84 : decode cX7_order 84 = .ok (.ifCond .eq 62, 3) := by decide +kernel
theorem dX7_order_87 : decode cX7_order 87 = .ok (.aload_n 0, 1) := by decide +kernel
theorem dX7_order_88 : decode cX7_order 88 = .ok (.sipush 375, 3) := by decide +kernel
theorem dX7_order_91 : decode cX7_order 91 = .ok (.aload_n 0, 1) := by decide +kernel
theorem dX7_order_92 : decode cX7_order 92 = .ok (.getfield 7, 3) := by decide +kernel
theorem dX7_order_95 : decode cX7_order 95 = .ok (.bipush 25, 2) := by decide +kernel
theorem dX7_order_97 : decode cX7_order 97 = .ok (.iaload, 1) := by decide +kernel
theorem dX7_order_98 : decode cX7_order 98 = .ok (.invokevirtual 199, 3) := by decide +kernel
theorem dX7_order_101 : decode cX7_order 101 = .ok (.pop, 1) := by decide +kernel
theorem dX7_order_102 : decode cX7_order 102 = .ok (.aload_n 0, 1) := by decide +kernel
theorem dX7_order_103 : decode cX7_order 103 = .ok (.getfield 29, 3) := by decide +kernel
theorem dX7_order_106 : decode cX7_order 106 = .ok (.iload_n 1, 1) := by decide +kernel
theorem dX7_order_107 : decode cX7_order 107 = .ok (.iaload, 1) := by decide +kernel
theorem dX7_order_108 : decode cX7_order 108 = .ok (.iload 4, 2) := by decide +kernel
theorem dX7_order_110 : decode cX7_order 110 = .ok (.if_icmp .ge 8, 3) := by decide +kernel
theorem dX7_order_113 : decode cX7_order 113 = .ok (.iload 6, 2) := by decide +kernel
theorem dX7_order_115 : decode cX7_order 115 = .ok (.goto 5, 3) := by decide +kernel
theorem dX7_order_118 : decode cX7_order 118 = .ok (.iload 5, 2) := by decide +kernel
theorem dX7_order_120 : decode cX7_order 120 = .ok (.istore 5, 2) := by decide +kernel
theorem dX7_order_122 : decode cX7_order 122 = .ok (.aload_n 0, 1) := by decide +kernel
theorem dX7_order_123 : decode cX7_order 123 = .ok (.getfield 29, 3) := by decide +kernel
theorem dX7_order_126 : decode cX7_order 126 = .ok (.iload_n 1, 1) := by decide +kernel
theorem dX7_order_127 : decode cX7_order 127 = .ok (.iaload, 1) := by decide +kernel
theorem dX7_order_128 : decode cX7_order 128 = .ok (.iload 4, 2) := by decide +kernel
theorem dX7_order_130 : decode cX7_order 130 = .ok (.if_icmp .ge 12, 3) := by decide +kernel
theorem dX7_order_133 : decode cX7_order 133 = .ok (.aload_n 0, 1) := by decide +kernel
theorem dX7_order_134 : decode cX7_order 134 = .ok (.getfield 29, 3) := by decide +kernel
theorem dX7_order_137 : decode cX7_order 137 = .ok (.iload_n 1, 1) := by decide +kernel
theorem dX7_order_138 : decode cX7_order 138 = .ok (.iaload, 1) := by decide +kernel
theorem dX7_order_139 : decode cX7_order 139 = .ok (.goto 5, 3) := by decide +kernel
theorem dX7_order_142 : decode cX7_order 142 = .ok (.iload 4, 2) := by decide +kernel
theorem dX7_order_144 : decode cX7_order 144 = .ok (.istore 4, 2) := by decide +kernel
theorem dX7_order_146 : decode cX7_order 146 = .ok (.iinc 6 1, 3) := by decide +kernel
theorem dX7_order_149 : decode cX7_order 149 = .ok (.goto (-87), 3) := by decide +kernel
theorem dX7_order_152 : decode cX7_order 152 = .ok (.aload_n 0, 1) := by decide +kernel
theorem dX7_order_153 : decode cX7_order 153 = .ok (.getfield 13, 3) := by decide +kernel
theorem dX7_order_156 : decode cX7_order 156 = .ok (.iconst 1, 1) := by decide +kernel
theorem dX7_order_157 : decode cX7_order 157 = .ok (.isub, 1) := by decide +kernel
theorem dX7_order_158 : decode cX7_order 158 = .ok (.istore 6, 2) := by decide +kernel
theorem dX7_order_160 : decode cX7_order 160 = .ok (.iload 6, 2) := by decide +kernel
theorem dX7_order_162 : decode cX7_order 162 = .ok (.iload_n 2, 1) := by decide +kernel
theorem dX7_order_163 : decode cX7_order 163 = .ok (.bipush 10, 2) := by decide +kernel
theorem dX7_order_165 : decode cX7_order 165 = .ok (.isub, 1) := by decide +kernel
theorem dX7_order_166 : decode cX7_order 166 = .ok (.if_icmp .le 22, 3) := by decide +kernel
theorem dX7_order_169 : decode cX7_order 169 = .ok (.iload_n 2, 1) := by decide +kernel
theorem dX7_order_170 : decode cX7_order 170 = .ok (.ifCond .le 18, 3) := by decide +kernel
theorem dX7_order_173 : decode cX7_order 173 = .ok (.iload 5, 2) := by decide +kernel
theorem dX7_order_175 : decode cX7_order 175 = .ok (.aload_n 0, 1) := by decide +kernel
theorem dX7_order_176 : decode cX7_order 176 = .ok (.getfield 13, 3) := by decide +kernel
theorem dX7_order_179 : decode cX7_order 179 = .ok (.idiv, 1) := by decide +kernel
theorem dX7_order_180 : decode cX7_order 180 = .ok (.istore 5, 2) := by decide +kernel
theorem dX7_order_182 : decode cX7_order 182 = .ok (.iinc 6 (-1), 3) := by decide +kernel
theorem dX7_order_185 : decode cX7_order 185 = .ok (.goto (-25), 3) := by decide +kernel
theorem dX7_order_188 : decode cX7_order 188 = .ok (.iload_n 2, 1) := by decide +kernel
theorem dX7_order_189 : decode cX7_order 189 = .ok (.ifCond .ne 8, 3) := by decide +kernel
theorem dX7_order_192 : decode cX7_order 192 = .ok (.iload 4, 2) := by decide +kernel
theorem dX7_order_194 : decode cX7_order 194 = .ok (.goto 10, 3) := by decide +kernel
theorem dX7_order_197 : decode cX7_order 197 = .ok (.iload 5, 2) := by decide +kernel
theorem dX7_order_199 : decode cX7_order 199 = .ok (.aload_n 0, 1) := by decide +kernel
theorem dX7_order_200 : decode cX7_order 200 = .ok (.getfield 13, 3) := by decide +kernel
theorem dX7_order_203 : decode cX7_order 203 = .ok (.irem, 1) := by decide +kernel
theorem dX7_order_204 : decode cX7_order 204 = .ok (.ireturn, 1) := by decide +kernel
theorem dX7_kind_0 : decode cX7_kind 0 = .ok (.aload_n 0, 1) := by decide +kernel
theorem dX7_kind_1 : decode cX7_kind 1 = .ok (.iload_n 1, 1) := by decide +kernel
theorem dX7_kind_2 : decode cX7_kind 2 = .ok (.invokevirtual 162, 3) := by decide +kernel
theorem dX7_kind_5 : decode cX7_kind 5 = .ok (.ifCond .eq 25, 3) := by decide +kernel
theorem dX7_kind_8 : decode cX7_kind 8 = .ok (.iload_n 2, 1) := by decide +kernel
theorem dX7_kind_9 : decode cX7_kind 9 = .ok (.i2l, 1) := by decide +kernel
theorem dX7_kind_10 : decode cX7_kind 10 = .ok (.lconst 0, 1) := by decide +kernel
theorem dX7_kind_11 : decode cX7_kind 11 = .ok (.ldc2_w 197, 3) := by decide +kernel
theorem dX7_kind_14 : decode cX7_kind 14 = .ok (.invokestatic 56, 3) := by decide +kernel
theorem dX7_kind_17 : decode cX7_kind 17 = .ok (.ifCond .eq 13, 3) := by decide +kernel
theorem dX7_kind_20 : decode cX7_kind 20 = .ok (.iload_n 3, 1) := by decide +kernel
theorem dX7_kind_21 : decode cX7_kind 21 = .ok (.i2l, 1) := by decide +kernel
theorem dX7_kind_22 : decode cX7_kind 22 = .ok (.lconst 0, 1) := by decide +kernel
theorem dX7_kind_23 : decode cX7_kind 23 = .ok (.lconst 1, 1) := by decide +kernel
theorem dX7_kind_24 : decode cX7_kind 24 = .ok (.invokestatic 56, 3) := by decide +kernel
theorem dX7_kind_27 : decode cX7_kind 27 = .ok (.ifCond .ne 5, 3) := by decide +kernel
theorem dX7_kind_30 : decode cX7_kind 30 = .ok (.iconst (-1), 1) := by decide +kernel
theorem dX7_kind_31 : decode cX7_kind 31 = .ok (.ireturn, 1) := by decide +kernel
theorem dX7_kind_32 : decode cX7_kind 32 = .ok (.ldc 205, 2) := by decide +kernel
theorem dX7_kind_34 : decode cX7_kind 34 = .ok (.istore 4, 2) := by decide +kernel
theorem dX7_kind_36 : decode cX7_kind 36 = .ok (.iconst 0, 1) := by decide +kernel
theorem dX7_kind_37 : decode cX7_kind 37 = .ok (.istore 5, 2) := by decide +kernel
theorem dX7_kind_39 : decode cX7_kind 39 = .ok (.aload_n 0, 1) := by decide +kernel
theorem dX7_kind_40 : decode cX7_kind 40 = .ok (.iconst 0, 1) := by decide +kernel
theorem dX7_kind_41 : decode cX7_kind 41 = .ok (.sipush 375, 3) := by decide +kernel
theorem dX7_kind_44 : decode cX7_kind 44 = .ok (.invokevirtual 193, 3) := by decide +kernel
theorem dX7_kind_47 : decode cX7_kind 47 = .ok (.iconst 0, 1) := by decide +kernel
theorem dX7_kind_48 : decode cX7_kind 48 = .ok (.istore 6, 2) := by decide +kernel
theorem dX7_kind_50 : decode cX7_kind 50 = .ok (.iload 6, 2) := by decide +kernel
theorem dX7_kind_52 : decode cX7_kind 52 = .ok (.iconst 4, 1) := by decide +kernel
theorem dX7_kind_53 : decode cX7_kind 53 = .ok (.if_icmp .ge 74, 3) := by decide +kernel
theorem dX7_kind_56 : decode cX7_kind 56 = .ok (.aload_n 0, 1) := by decide +kernel
theorem dX7_kind_57 : decode cX7_kind 57 = .ok (.getfield 7, 3) := by decide +kernel
theorem dX7_kind_60 : decode cX7_kind 60 = .ok (.sipush 375, 3) := by decide +kernel
theorem dX7_kind_63 : decode cX7_kind 63 = .ok (.iload_n 1, 1) := by decide +kernel
theorem dX7_kind_64 : decode cX7_kind 64 = .ok (.iadd, 1) := by decide +kernel
theorem dX7_kind_65 : decode cX7_kind 65 = .ok (.iload 6, 2) := by decide +kernel
theorem dX7_kind_67 : decode cX7_kind 67 = .ok (.iastore, 1) := by decide +kernel
theorem dX7_kind_68 : decode cX7_kind 68 = .ok (.aload_n 0, 1) := by decide +kernel
theorem dX7_kind_69 : decode cX7_kind 69 = .ok (.sipush 375, 3) := by decide +kernel
theorem dX7_kind_72 : decode cX7_kind 72 = .ok (.iload_n 2, 1) := by decide +kernel
theorem dX7_kind_73 : decode cX7_kind 73 = .ok (.invokevirtual 199, 3) := by decide +kernel
theorem dX7_kind_76 : decode cX7_kind 76 = .ok (.pop, 1) := by decide +kernel
theorem dX7_kind_77 : decode cX7_kind 77 = .ok (.aload_n 0, 1) := by decide +kernel
theorem dX7_kind_78 : decode cX7_kind 78 = .ok (.getfield 29, 3) := by decide +kernel
theorem dX7_kind_81 : decode cX7_kind 81 = .ok (.iload_n 1, 1) := by decide +kernel
theorem dX7_kind_82 : decode cX7_kind 82 = .ok (.iaload, 1) := by decide +kernel
theorem dX7_kind_83 : decode cX7_kind 83 = .ok (.iload 4, 2) := by decide +kernel
theorem dX7_kind_85 : decode cX7_kind 85 = .ok (.if_icmp .ge 8, 3) := by decide +kernel
theorem dX7_kind_88 : decode cX7_kind 88 = .ok (.iload 6, 2) := by decide +kernel
theorem dX7_kind_90 : decode cX7_kind 90 = .ok (.goto 5, 3) := by decide +kernel
theorem dX7_kind_93 : decode cX7_kind 93 = .ok (.iload 5, 2) := by decide +kernel
theorem dX7_kind_95 : decode cX7_kind 95 = .ok (.istore 5, 2) := by decide +kernel
theorem dX7_kind_97 : decode cX7_kind 97 = .ok (.aload_n 0, 1) := by decide +kernel
theorem dX7_kind_98 : decode cX7_kind 98 = .ok (.getfield 29, 3) := by decide +kernel
theorem dX7_kind_101 : decode cX7_kind 101 = .ok (.iload_n 1, 1) := by decide +kernel
theorem dX7_kind_102 : decode cX7_kind 102 = .ok (.iaload, 1) := by decide +kernel
theorem dX7_kind_103 : decode cX7_kind 103 = .ok (.iload 4, 2) := by decide +kernel
theorem dX7_kind_105 : decode cX7_kind 105 = .ok (.if_icmp .ge 12, 3) := by decide +kernel
theorem dX7_kind_108 : decode cX7_kind 108 = .ok (.aload_n 0, 1) := by decide +kernel
theorem dX7_kind_109 : decode cX7_kind 109 = .ok (.getfield 29, 3) := by decide +kernel
theorem dX7_kind_112 : decode cX7_kind 112 = .ok (.iload_n 1, 1) := by decide +kernel
theorem dX7_kind_113 : decode cX7_kind 113 = .ok (.iaload, 1) := by decide +kernel
theorem dX7_kind_114 : decode cX7_kind 114 = .ok (.goto 5, 3) := by decide +kernel
theorem dX7_kind_117 : decode cX7_kind 117 = .ok (.iload 4, 2) := by decide +kernel
theorem dX7_kind_119 : decode cX7_kind 119 = .ok (.istore 4, 2) := by decide +kernel
theorem dX7_kind_121 : decode cX7_kind 121 = .ok (.iinc 6 1, 3) := by decide +kernel
theorem dX7_kind_124 : decode cX7_kind 124 = .ok (.goto (-74), 3) := by decide +kernel
theorem dX7_kind_127 : decode cX7_kind 127 = .ok (.iload_n 3, 1) := by decide +kernel
theorem dX7_kind_128 : decode cX7_kind 128 = .ok (.ifCond .ne 8, 3) := by decide +kernel
theorem dX7_kind_131 : decode cX7_kind 131 = .ok (.iload 5, 2) := by decide +kernel
theorem dX7_kind_133 : decode cX7_kind 133 = .ok (.goto 5, 3) := by decide +kernel
theorem dX7_kind_136 : decode cX7_kind 136 = .ok (.iload 4, 2) := by decide +kernel
theorem dX7_kind_138 : decode cX7_kind 138 = .ok (.ireturn, 1) := by decide +kernel
theorem dX7_first_0 : decode cX7_first 0 = .ok (.aload_n 0, 1) := by decide +kernel
theorem dX7_first_1 : decode cX7_first 1 = .ok (.iload_n 1, 1) := by decide +kernel
theorem dX7_first_2 : decode cX7_first 2 = .ok (.invokevirtual 162, 3) := by decide +kernel
theorem dX7_first_5 : decode cX7_first 5 = .ok (.ifCond .eq 25, 3) := by decide +kernel
theorem dX7_first_8 : decode cX7_first 8 = .ok (.iload_n 2, 1) := by decide +kernel
theorem dX7_first_9 : decode cX7_first 9 = .ok (.i2l, 1) := by decide +kernel
theorem dX7_first_10 : decode cX7_first 10 = .ok (.lconst 0, 1) := by decide +kernel
theorem dX7_first_11 : decode cX7_first 11 = .ok (.ldc2_w 197, 3) := by decide +kernel
theorem dX7_first_14 : decode cX7_first 14 = .ok (.invokestatic 56, 3) := by decide +kernel
theorem dX7_first_17 : decode cX7_first 17 = .ok (.ifCond .eq 13, 3) := by decide +kernel
theorem dX7_first_20 : decode cX7_first 20 = .ok (.iload_n 3, 1) := by decide +kernel
theorem dX7_first_21 : decode cX7_first 21 = .ok (.i2l, 1) := by decide +kernel
theorem dX7_first_22 : decode cX7_first 22 = .ok (.lconst 0, 1) := by decide +kernel
theorem dX7_first_23 : decode cX7_first 23 = .ok (.lconst 1, 1) := by decide +kernel
theorem dX7_first_24 : decode cX7_first 24 = .ok (.invokestatic 56, 3) := by decide +kernel
theorem dX7_first_27 : decode cX7_first 27 = .ok (.ifCond .ne 5, 3) := by decide +kernel
theorem dX7_first_30 : decode cX7_first 30 = .ok (.iconst (-1), 1) := by decide +kernel
theorem dX7_first_31 : decode cX7_first 31 = .ok (.ireturn, 1) := by decide +kernel
theorem dX7_first_32 : decode cX7_first 32 = .ok (.ldc 205, 2) := by decide +kernel
theorem dX7_first_34 : decode cX7_first 34 = .ok (.istore 4, 2) := by decide +kernel
theorem dX7_first_36 : decode cX7_first 36 = .ok (.iconst 0, 1) := by decide +kernel
theorem dX7_first_37 : decode cX7_first 37 = .ok (.istore 5, 2) := by decide +kernel
theorem dX7_first_39 : decode cX7_first 39 = .ok (.iconst 0, 1) := by decide +kernel
theorem dX7_first_40 : decode cX7_first 40 = .ok (.istore 6, 2) := by decide +kernel
theorem dX7_first_42 : decode cX7_first 42 = .ok (.iload 6, 2) := by decide +kernel
theorem dX7_first_44 : decode cX7_first 44 = .ok (.aload_n 0, 1) := by decide +kernel
theorem dX7_first_45 : decode cX7_first 45 = .ok (.getfield 13, 3) := by decide +kernel
theorem dX7_first_48 : decode cX7_first 48 = .ok (.if_icmp .ge 89, 3) := by decide +kernel
theorem dX7_first_51 : decode cX7_first 51 = .ok (.aload_n 0, 1) := by decide +kernel
theorem dX7_first_52 : decode cX7_first 52 = .ok (.iconst 0, 1) := by decide +kernel
theorem dX7_first_53 : decode cX7_first 53 = .ok (.sipush 375, 3) := by decide +kernel
theorem dX7_first_56 : decode cX7_first 56 = .ok (.invokevirtual 193, 3) := by decide +kernel
theorem dX7_first_59 : decode cX7_first 59 = .ok (.aload_n 0, 1) := by decide +kernel
theorem dX7_first_60 : decode cX7_first 60 = .ok (.sipush 375, 3) := by decide +kernel
theorem dX7_first_63 : decode cX7_first 63 = .ok (.iload_n 1, 1) := by decide +kernel
theorem dX7_first_64 : decode cX7_first 64 = .ok (.aload_n 0, 1) := by decide +kernel
theorem dX7_first_65 : decode cX7_first 65 = .ok (.sipush 375, 3) := by decide +kernel
theorem dX7_first_68 : decode cX7_first 68 = .ok (.iload_n 1, 1) := by decide +kernel
theorem dX7_first_69 : decode cX7_first 69 = .ok (.iload 6, 2) := by decide +kernel
theorem dX7_first_71 : decode cX7_first 71 = .ok (.invokevirtual 144, 3) := by decide +kernel
theorem dX7_first_74 : decode cX7_first 74 = .ok (.iconst 0, 1) := by decide +kernel
theorem dX7_first_75 : decode cX7_first 75 = .ok (.invokevirtual 152, 3) := by decide +kernel
theorem dX7_first_78 : decode cX7_first 78 = .ok (.aload_n 0, 1) := by decide +kernel
theorem dX7_first_79 : decode cX7_first 79 = .ok (.sipush 375, 3) := by decide +kernel
theorem dX7_first_82 : decode cX7_first 82 = .ok (.iload_n 2, 1) := by decide +kernel
theorem dX7_first_83 : decode cX7_first 83 = .ok (.invokevirtual 199, 3) := by decide +kernel
theorem dX7_first_86 : decode cX7_first 86 = .ok (.pop, 1) := by decide +kernel
theorem dX7_first_87 : decode cX7_first 87 = .ok (.aload_n 0, 1) := by decide +kernel
theorem dX7_first_88 : decode cX7_first 88 = .ok (.getfield 29, 3) := by decide +kernel
theorem dX7_first_91 : decode cX7_first 91 = .ok (.iload_n 1, 1) := by decide +kernel
theorem dX7_first_92 : decode cX7_first 92 = .ok (.iaload, 1) := by decide +kernel
theorem dX7_first_93 : decode cX7_first 93 = .ok (.iload 4, 2) := by decide +kernel
theorem dX7_first_95 : decode cX7_first 95 = .ok (.if_icmp .ge 8, 3) := by decide +kernel
theorem dX7_first_98 : decode cX7_first 98 = .ok (.iload 6, 2) := by decide +kernel
theorem dX7_first_100 : decode cX7_first 100 = .ok (.goto 5, 3) := by decide +kernel
theorem dX7_first_103 : decode cX7_first 103 = .ok (.iload 5, 2) := by decide +kernel
theorem dX7_first_105 : decode cX7_first 105 = .ok (.istore 5, 2) := by decide +kernel
theorem dX7_first_107 : decode cX7_first 107 = .ok (.aload_n 0, 1) := by decide +kernel
theorem dX7_first_108 : decode cX7_first 108 = .ok (.getfield 29, 3) := by decide +kernel
theorem dX7_first_111 : decode cX7_first 111 = .ok (.iload_n 1, 1) := by decide +kernel
theorem dX7_first_112 : decode cX7_first 112 = .ok (.iaload, 1) := by decide +kernel
theorem dX7_first_113 : decode cX7_first 113 = .ok (.iload 4, 2) := by decide +kernel
theorem dX7_first_115 : decode cX7_first 115 = .ok (.if_icmp .ge 12, 3) := by decide +kernel
theorem dX7_first_118 : decode cX7_first 118 = .ok (.aload_n 0, 1) := by decide +kernel
theorem dX7_first_119 : decode cX7_first 119 = .ok (.getfield 29, 3) := by decide +kernel
theorem dX7_first_122 : decode cX7_first 122 = .ok (.iload_n 1, 1) := by decide +kernel
theorem dX7_first_123 : decode cX7_first 123 = .ok (.iaload, 1) := by decide +kernel
theorem dX7_first_124 : decode cX7_first 124 = .ok (.goto 5, 3) := by decide +kernel
theorem dX7_first_127 : decode cX7_first 127 = .ok (.iload 4, 2) := by decide +kernel
theorem dX7_first_129 : decode cX7_first 129 = .ok (.istore 4, 2) := by decide +kernel
theorem dX7_first_131 : decode cX7_first 131 = .ok (.iinc 6 1, 3) := by decide +kernel
theorem dX7_first_134 : decode cX7_first 134 = .ok (.goto (-92), 3) := by decide +kernel
theorem dX7_first_137 : decode cX7_first 137 = .ok (.iload_n 3, 1) := by decide +kernel
theorem dX7_first_138 : decode cX7_first 138 = .ok (.ifCond .ne 8, 3) := by decide +kernel
theorem dX7_first_141 : decode cX7_first 141 = .ok (.iload 5, 2) := by decide +kernel
theorem dX7_first_143 : decode cX7_first 143 = .ok (.goto 5, 3) := by decide +kernel
theorem dX7_first_146 : decode cX7_first 146 = .ok (.iload 4, 2) := by decide +kernel
theorem dX7_first_148 : decode cX7_first 148 = .ok (.ireturn, 1) := by decide +kernel
theorem dX7_swap_0 : decode cX7_swap 0 = .ok (.iload_n 1, 1) := by decide +kernel
theorem dX7_swap_1 : decode cX7_swap 1 = .ok (.i2l, 1) := by decide +kernel
theorem dX7_swap_2 : decode cX7_swap 2 = .ok (.lconst 0, 1) := by decide +kernel
theorem dX7_swap_3 : decode cX7_swap 3 = .ok (.ldc2_w 197, 3) := by decide +kernel
theorem dX7_swap_6 : decode cX7_swap 6 = .ok (.invokestatic 56, 3) := by decide +kernel
theorem dX7_swap_9 : decode cX7_swap 9 = .ok (.ifCond .eq 13, 3) := by decide +kernel
theorem dX7_swap_12 : decode cX7_swap 12 = .ok (.iload_n 2, 1) := by decide +kernel
theorem dX7_swap_13 : decode cX7_swap 13 = .ok (.i2l, 1) := by decide +kernel
theorem dX7_swap_14 : decode cX7_swap 14 = .ok (.lconst 0, 1) := by decide +kernel
theorem dX7_swap_15 : decode cX7_swap 15 = .ok (.lconst 1, 1) := by decide +kernel
theorem dX7_swap_16 : decode cX7_swap 16 = .ok (.invokestatic 56, 3) := by decide +kernel
theorem dX7_swap_19 : decode cX7_swap 19 = .ok (.ifCond .ne 5, 3) := by decide +kernel
theorem dX7_swap_22 : decode cX7_swap 22 = .ok (.iconst (-1), 1) := by decide +kernel
theorem dX7_swap_23 : decode cX7_swap 23 = .ok (.ireturn, 1) := by decide +kernel
theorem dX7_swap_24 : decode cX7_swap 24 = .ok (.aload_n 0, 1) := by decide +kernel
theorem dX7_swap_25 : decode cX7_swap 25 = .ok (.iconst 0, 1) := by decide +kernel
theorem dX7_swap_26 : decode cX7_swap 26 = .ok (.iload_n 1, 1) := by decide +kernel
theorem dX7_swap_27 : decode cX7_swap 27 = .ok (.invokevirtual 199, 3) := by decide +kernel
theorem dX7_swap_30 : decode cX7_swap 30 = .ok (.istore_n 3, 1) := by decide +kernel
theorem dX7_swap_31 : decode cX7_swap 31 = .ok (.bipush (-4), 2) := by decide +kernel
theorem dX7_swap_33 : decode cX7_swap 33 = .ok (.istore 4, 2) := by decide +kernel
theorem dX7_swap_35 : decode cX7_swap 35 = .ok (.iconst 0, 1) := by decide +kernel
theorem dX7_swap_36 : decode cX7_swap 36 = .ok (.istore 5, 2) := by decide +kernel
theorem dX7_swap_38 : decode cX7_swap 38 = .ok (.iload 5, 2) := by decide +kernel
theorem dX7_swap_40 : decode cX7_swap 40 = .ok (.aload_n 0, 1) := by decide +kernel
theorem dX7_swap_41 : decode cX7_swap 41 = .ok (.getfield 7, 3) := by decide +kernel
theorem dX7_swap_44 : decode cX7_swap 44 = .ok (.bipush 25, 2) := by decide +kernel
theorem dX7_swap_46 : decode cX7_swap 46 = .ok (.iaload, 1) := by decide +kernel
theorem dX7_swap_47 : decode cX7_swap 47 = .ok (.if_icmp .ge 127, 3) := by decide +kernel
theorem dX7_swap_50 : decode cX7_swap 50 = .ok (.iload 5, 2) := by decide +kernel
theorem dX7_swap_52 : decode cX7_swap 52 = .ok (.iconst 1, 1) := by decide +kernel
theorem dX7_swap_53 : decode cX7_swap 53 = .ok (.iadd, 1) := by decide +kernel
theorem dX7_swap_54 : decode cX7_swap 54 = .ok (.istore 6, 2) := by decide +kernel
theorem dX7_swap_56 : decode cX7_swap 56 = .ok (.iload 6, 2) := by decide +kernel
theorem dX7_swap_58 : decode cX7_swap 58 = .ok (.aload_n 0, 1) := by decide +kernel
theorem dX7_swap_59 : decode cX7_swap 59 = .ok (.getfield 7, 3) := by decide +kernel
theorem dX7_swap_62 : decode cX7_swap 62 = .ok (.bipush 25, 2) := by decide +kernel
theorem dX7_swap_64 : decode cX7_swap 64 = .ok (.iaload, 1) := by decide +kernel
theorem dX7_swap_65 : decode cX7_swap 65 = .ok (.if_icmp .ge 103, 3) := by decide +kernel
theorem dX7_swap_68 : decode cX7_swap 68 = .ok (.aload_n 0, 1) := by decide +kernel
theorem dX7_swap_69 : decode cX7_swap 69 = .ok (.iconst 0, 1) := by decide +kernel
theorem dX7_swap_70 : decode cX7_swap 70 = .ok (.sipush 375, 3) := by decide +kernel
theorem dX7_swap_73 : decode cX7_swap 73 = .ok (.invokevirtual 193, 3) := by decide +kernel
theorem dX7_swap_76 : decode cX7_swap 76 = .ok (.aload_n 0, 1) := by decide +kernel
theorem dX7_swap_77 : decode cX7_swap 77 = .ok (.getfield 7, 3) := by decide +kernel
theorem dX7_swap_80 : decode cX7_swap 80 = .ok (.sipush 384, 3) := by decide +kernel
theorem dX7_swap_83 : decode cX7_swap 83 = .ok (.iload 5, 2) := by decide +kernel
theorem dX7_swap_85 : decode cX7_swap 85 = .ok (.iadd, 1) := by decide +kernel
theorem dX7_swap_86 : decode cX7_swap 86 = .ok (.aload_n 0, 1) := by decide +kernel
theorem dX7_swap_87 : decode cX7_swap 87 = .ok (.getfield 7, 3) := by decide +kernel
theorem dX7_swap_90 : decode cX7_swap 90 = .ok (.bipush 9, 2) := by decide +kernel
theorem dX7_swap_92 : decode cX7_swap 92 = .ok (.iload 6, 2) := by decide +kernel
theorem dX7_swap_94 : decode cX7_swap 94 = .ok (.iadd, 1) := by decide +kernel
theorem dX7_swap_95 : decode cX7_swap 95 = .ok (.iaload, 1) := by decide +kernel
theorem dX7_swap_96 : decode cX7_swap 96 = .ok (.iastore, 1) := by decide +kernel
theorem dX7_swap_97 : decode cX7_swap 97 = .ok (.aload_n 0, 1) := by decide +kernel
theorem dX7_swap_98 : decode cX7_swap 98 = .ok (.getfield 7, 3) := by decide +kernel
theorem dX7_swap_101 : decode cX7_swap 101 = .ok (.sipush 384, 3) := by decide +kernel
theorem dX7_swap_104 : decode cX7_swap 104 = .ok (.iload 6, 2) := by decide +kernel
theorem dX7_swap_106 : decode cX7_swap 106 = .ok (.iadd, 1) := by decide +kernel
theorem dX7_swap_107 : decode cX7_swap 107 = .ok (.aload_n 0, 1) := by decide +kernel
theorem dX7_swap_108 : decode cX7_swap 108 = .ok (.getfield 7, 3) := by decide +kernel
theorem dX7_swap_111 : decode cX7_swap 111 = .ok (.bipush 9, 2) := by decide +kernel
theorem dX7_swap_113 : decode cX7_swap 113 = .ok (.iload 5, 2) := by decide +kernel
theorem dX7_swap_115 : decode cX7_swap 115 = .ok (.iadd, 1) := by decide +kernel
theorem dX7_swap_116 : decode cX7_swap 116 = .ok (.iaload, 1) := by decide +kernel
theorem dX7_swap_117 : decode cX7_swap 117 = .ok (.iastore, 1) := by decide +kernel
theorem dX7_swap_118 : decode cX7_swap 118 = .ok (.aload_n 0, 1) := by decide +kernel
theorem dX7_swap_119 : decode cX7_swap 119 = .ok (.sipush 375, 3) := by decide +kernel
theorem dX7_swap_122 : decode cX7_swap 122 = .ok (.iload_n 1, 1) := by decide +kernel
theorem dX7_swap_123 : decode cX7_swap 123 = .ok (.invokevirtual 199, 3) := by decide +kernel
theorem dX7_swap_126 : decode cX7_swap 126 = .ok (.istore 7, 2) := by decide +kernel
theorem dX7_swap_128 : decode cX7_swap 128 = .ok (.iload 7, 2) := by decide +kernel
theorem dX7_swap_130 : decode cX7_swap 130 = .ok (.iload_n 3, 1) := by decide +kernel
theorem dX7_swap_131 : decode cX7_swap 131 = .ok (.if_icmp .ge 14, 3) := by decide +kernel
theorem dX7_swap_134 : decode cX7_swap 134 = .ok (.bipush 100, 2) := by decide +kernel
theorem dX7_swap_136 : decode cX7_swap 136 = .ok (.iload 5, 2) := by decide +kernel
theorem dX7_swap_138 : decode cX7_swap 138 = .ok (.imul, 1) := by decide +kernel
theorem dX7_swap_139 : decode cX7_swap 139 = .ok (.iload 6, 2) := by decide +kernel
theorem dX7_swap_141 : decode cX7_swap 141 = .ok (.iadd, 1) := by decide +kernel
theorem dX7_swap_142 : decode cX7_swap 142 = .ok (.goto 5, 3) := by decide +kernel
theorem dX7_swap_145 : decode cX7_swap 145 = .ok (.iload 4, 2) := by decide +kernel
theorem dX7_swap_147 : decode cX7_swap 147 = .ok (.istore 4, 2) := by decide +kernel
theorem dX7_swap_149 : decode cX7_swap 149 = .ok (.iload 7, 2) := by decide +kernel
theorem dX7_swap_151 : decode cX7_swap 151 = .ok (.iload_n 3, 1) := by decide +kernel
theorem dX7_swap_152 : decode cX7_swap 152 = .ok (.if_icmp .ge 8, 3) := by decide +kernel
theorem dX7_swap_155 : decode cX7_swap 155 = .ok (.iload 7, 2) := by decide +kernel
theorem dX7_swap_157 : decode cX7_swap 157 = .ok (.goto 4, 3) := by decide +kernel
theorem dX7_swap_160 : decode cX7_swap 160 = .ok (.iload_n 3, 1) := by decide +kernel
theorem dX7_swap_161 : decode cX7_swap 161 = .ok (.istore_n 3, 1) := by decide +kernel
theorem dX7_swap_162 : decode cX7_swap 162 = .ok (.iinc 6 1, 3) := by decide +kernel
theorem dX7_swap_165 : decode cX7_swap 165 = .ok (.goto (-109), 3) := by decide +kernel
theorem dX7_swap_168 : decode cX7_swap 168 = .ok (.iinc 5 1, 3) := by decide +kernel
theorem dX7_swap_171 : decode cX7_swap 171 = .ok (.goto (-133), 3) := by decide +kernel
theorem dX7_swap_174 : decode cX7_swap 174 = .ok (.iload 4, 2) := by decide +kernel
theorem dX7_swap_176 : decode cX7_swap 176 = .ok (.bipush (-4), 2) := by decide +kernel
theorem dX7_swap_178 : decode cX7_swap 178 = .ok (.if_icmp .eq 7, 3) := by decide +kernel
theorem dX7_swap_181 : decode cX7_swap 181 = .ok (.iload_n 2, 1) := by decide +kernel
theorem dX7_swap_182 : decode cX7_swap 182 = .ok (.ifCond .ne 8, 3) := by decide +kernel
theorem dX7_swap_185 : decode cX7_swap 185 = .ok (.iload 4, 2) := by decide +kernel
theorem dX7_swap_187 : decode cX7_swap 187 = .ok (.goto 4, 3) := by decide +kernel
theorem dX7_swap_190 : decode cX7_swap 190 = .ok (.iload_n 3, 1) := by decide +kernel
theorem dX7_swap_191 : decode cX7_swap 191 = .ok (.ireturn, 1) := by decide +kernel
theorem dX7_lose_0 : decode cX7_lose 0 = .ok (.iload_n 1, 1) := by decide +kernel
theorem dX7_lose_1 : decode cX7_lose 1 = .ok (.i2l, 1) := by decide +kernel
theorem dX7_lose_2 : decode cX7_lose 2 = .ok (.lconst 0, 1) := by decide +kernel
theorem dX7_lose_3 : decode cX7_lose 3 = .ok (.ldc2_w 197, 3) := by decide +kernel
theorem dX7_lose_6 : decode cX7_lose 6 = .ok (.invokestatic 56, 3) := by decide +kernel
theorem dX7_lose_9 : decode cX7_lose 9 = .ok (.ifCond .eq 13, 3) := by decide +kernel
theorem dX7_lose_12 : decode cX7_lose 12 = .ok (.iload_n 2, 1) := by decide +kernel
theorem dX7_lose_13 : decode cX7_lose 13 = .ok (.i2l, 1) := by decide +kernel
theorem dX7_lose_14 : decode cX7_lose 14 = .ok (.lconst 0, 1) := by decide +kernel
theorem dX7_lose_15 : decode cX7_lose 15 = .ok (.lconst 1, 1) := by decide +kernel
theorem dX7_lose_16 : decode cX7_lose 16 = .ok (.invokestatic 56, 3) := by decide +kernel
theorem dX7_lose_19 : decode cX7_lose 19 = .ok (.ifCond .ne 5, 3) := by decide +kernel
theorem dX7_lose_22 : decode cX7_lose 22 = .ok (.iconst (-1), 1) := by decide +kernel
theorem dX7_lose_23 : decode cX7_lose 23 = .ok (.ireturn, 1) := by decide +kernel
theorem dX7_lose_24 : decode cX7_lose 24 = .ok (.aload_n 0, 1) := by decide +kernel
theorem dX7_lose_25 : decode cX7_lose 25 = .ok (.iconst 0, 1) := by decide +kernel
theorem dX7_lose_26 : decode cX7_lose 26 = .ok (.iload_n 1, 1) := by decide +kernel
theorem dX7_lose_27 : decode cX7_lose 27 = .ok (.invokevirtual 199, 3) := by decide +kernel
theorem dX7_lose_30 : decode cX7_lose 30 = .ok (.istore_n 3, 1) := by decide +kernel
theorem dX7_lose_31 : decode cX7_lose 31 = .ok (.bipush (-4), 2) := by decide +kernel
theorem dX7_lose_33 : decode cX7_lose 33 = .ok (.istore 4, 2) := by decide +kernel
theorem dX7_lose_35 : decode cX7_lose 35 = .ok (.iconst 0, 1) := by decide +kernel
theorem dX7_lose_36 : decode cX7_lose 36 = .ok (.istore 5, 2) := by decide +kernel
theorem dX7_lose_38 : decode cX7_lose 38 = .ok (.iload 5, 2) := by decide +kernel
theorem dX7_lose_40 : decode cX7_lose 40 = .ok (.aload_n 0, 1) := by decide +kernel
theorem dX7_lose_41 : decode cX7_lose 41 = .ok (.getfield 7, 3) := by decide +kernel
theorem dX7_lose_44 : decode cX7_lose 44 = .ok (.bipush 25, 2) := by decide +kernel
theorem dX7_lose_46 : decode cX7_lose 46 = .ok (.iaload, 1) := by decide +kernel
theorem dX7_lose_47 : decode cX7_lose 47 = .ok (.if_icmp .ge 57, 3) := by decide +kernel
theorem dX7_lose_50 : decode cX7_lose 50 = .ok (.aload_n 0, 1) := by decide +kernel
theorem dX7_lose_51 : decode cX7_lose 51 = .ok (.iload 5, 2) := by decide +kernel
theorem dX7_lose_53 : decode cX7_lose 53 = .ok (.putfield 32, 3) := by decide +kernel
theorem dX7_lose_56 : decode cX7_lose 56 = .ok (.aload_n 0, 1) := by decide +kernel
theorem dX7_lose_57 : decode cX7_lose 57 = .ok (.iconst 0, 1) := by decide +kernel
theorem dX7_lose_58 : decode cX7_lose 58 = .ok (.iload_n 1, 1) := by decide +kernel
theorem dX7_lose_59 : decode cX7_lose 59 = .ok (.invokevirtual 199, 3) := by decide +kernel
theorem dX7_lose_62 : decode cX7_lose 62 = .ok (.istore 6, 2) := by decide +kernel
theorem dX7_lose_64 : decode cX7_lose 64 = .ok (.aload_n 0, 1) := by decide +kernel
theorem dX7_lose_65 : decode cX7_lose 65 = .ok (.bipush (-4), 2) := by decide +kernel
theorem dX7_lose_67 : decode cX7_lose 67 = .ok (.putfield 32, 3) := by decide +kernel
theorem dX7_lose_70 : decode cX7_lose 70 = .ok (.iload 6, 2) := by decide +kernel
theorem dX7_lose_72 : decode cX7_lose 72 = .ok (.iload_n 3, 1) := by decide +kernel
theorem dX7_lose_73 : decode cX7_lose 73 = .ok (.if_icmp .ge 8, 3) := by decide +kernel
theorem dX7_lose_76 : decode cX7_lose 76 = .ok (.iload 5, 2) := by decide +kernel
theorem dX7_lose_78 : decode cX7_lose 78 = .ok (.goto 5, 3) := by decide +kernel
theorem dX7_lose_81 : decode cX7_lose 81 = .ok (.iload 4, 2) := by decide +kernel
theorem dX7_lose_83 : decode cX7_lose 83 = .ok (.istore 4, 2) := by decide +kernel
theorem dX7_lose_85 : decode cX7_lose 85 = .ok (.iload 6, 2) := by decide +kernel
theorem dX7_lose_87 : decode cX7_lose 87 = .ok (.iload_n 3, 1) := by decide +kernel
theorem dX7_lose_88 : decode cX7_lose 88 = .ok (.if_icmp .ge 8, 3) := by decide +kernel
theorem dX7_lose_91 : decode cX7_lose 91 = .ok (.iload 6, 2) := by decide +kernel
theorem dX7_lose_93 : decode cX7_lose 93 = .ok (.goto 4, 3) := by decide +kernel
theorem dX7_lose_96 : decode cX7_lose 96 = .ok (.iload_n 3, 1) := by decide +kernel
theorem dX7_lose_97 : decode cX7_lose 97 = .ok (.istore_n 3, 1) := by decide +kernel
theorem dX7_lose_98 : decode cX7_lose 98 = .ok (.iinc 5 1, 3) := by decide +kernel
theorem dX7_lose_101 : decode cX7_lose 101 = .ok (.goto (-63), 3) := by decide +kernel
theorem dX7_lose_104 : decode cX7_lose 104 = .ok (.iload 4, 2) := by decide +kernel
theorem dX7_lose_106 : decode cX7_lose 106 = .ok (.bipush (-4), 2) := by decide +kernel
theorem dX7_lose_108 : decode cX7_lose 108 = .ok (.if_icmp .eq 7, 3) := by decide +kernel
theorem dX7_lose_111 : decode cX7_lose 111 = .ok (.iload_n 2, 1) := by decide +kernel
theorem dX7_lose_112 : decode cX7_lose 112 = .ok (.ifCond .ne 8, 3) := by decide +kernel
theorem dX7_lose_115 : decode cX7_lose 115 = .ok (.iload 4, 2) := by decide +kernel
theorem dX7_lose_117 : decode cX7_lose 117 = .ok (.goto 4, 3) := by decide +kernel
theorem dX7_lose_120 : decode cX7_lose 120 = .ok (.iload_n 3, 1) := by decide +kernel
theorem dX7_lose_121 : decode cX7_lose 121 = .ok (.ireturn, 1) := by decide +kernel
theorem dX7_lowest_0 : decode cX7_lowest 0 = .ok (.lload_n 0, 1) := by decide +kernel
theorem dX7_lowest_1 : decode cX7_lowest 1 = .ok (.lstore 5, 2) := by decide +kernel
theorem dX7_lowest_3 : decode cX7_lowest 3 = .ok (.lload_n 2, 1) := by decide +kernel
theorem dX7_lowest_4 : decode cX7_lowest 4 = .ok (.lstore 7, 2) := by decide +kernel
theorem dX7_lowest_6 : decode cX7_lowest 6 = .ok (.lload 7, 2) := by decide +kernel
theorem dX7_lowest_8 : decode cX7_lowest 8 = .ok (.lconst 0, 1) := by decide +kernel
theorem dX7_lowest_9 : decode cX7_lowest 9 = .ok (.lcmp, 1) := by decide +kernel
theorem dX7_lowest_10 : decode cX7_lowest 10 = .ok (.ifCond .eq 21, 3) := by decide +kernel
theorem dX7_lowest_13 : decode cX7_lowest 13 = .ok (.lload 5, 2) := by decide +kernel
theorem dX7_lowest_15 : decode cX7_lowest 15 = .ok (.lload 7, 2) := by decide +kernel
theorem dX7_lowest_17 : decode cX7_lowest 17 = .ok (.lrem, 1) := by decide +kernel
theorem dX7_lowest_18 : decode cX7_lowest 18 = .ok (.lstore 9, 2) := by decide +kernel
theorem dX7_lowest_20 : decode cX7_lowest 20 = .ok (.lload 7, 2) := by decide +kernel
theorem dX7_lowest_22 : decode cX7_lowest 22 = .ok (.lstore 5, 2) := by decide +kernel
theorem dX7_lowest_24 : decode cX7_lowest 24 = .ok (.lload 9, 2) := by decide +kernel
theorem dX7_lowest_26 : decode cX7_lowest 26 = .ok (.lstore 7, 2) := by decide +kernel
theorem dX7_lowest_28 : decode cX7_lowest 28 = .ok (.goto (-22), 3) := by decide +kernel
theorem dX7_lowest_31 : decode cX7_lowest 31 = .ok (.iload 4, 2) := by decide +kernel
theorem dX7_lowest_33 : decode cX7_lowest 33 = .ok (.ifCond .ne 7, 3) := by decide +kernel
theorem dX7_lowest_36 : decode cX7_lowest 36 = .ok (.lload_n 0, 1) := by decide +kernel
theorem dX7_lowest_37 : decode cX7_lowest 37 = .ok (.goto 4, 3) := by decide +kernel
theorem dX7_lowest_40 : decode cX7_lowest 40 = .ok (.lload_n 2, 1) := by decide +kernel
theorem dX7_lowest_41 : decode cX7_lowest 41 = .ok (.lload 5, 2) := by decide +kernel
theorem dX7_lowest_43 : decode cX7_lowest 43 = .ok (.ldiv, 1) := by decide +kernel
theorem dX7_lowest_44 : decode cX7_lowest 44 = .ok (.lreturn, 1) := by decide +kernel
theorem dX7_byNothing_0 : decode cX7_byNothing 0 = .ok (.lconst 0, 1) := by decide +kernel
theorem dX7_byNothing_1 : decode cX7_byNothing 1 = .ok (.lstore 6, 2) := by decide +kernel
theorem dX7_byNothing_3 : decode cX7_byNothing 3 = .ok (.lconst 1, 1) := by decide +kernel
theorem dX7_byNothing_4 : decode cX7_byNothing 4 = .ok (.lstore 8, 2) := by decide +kernel
theorem dX7_byNothing_6 : decode cX7_byNothing 6 = .ok (.iconst 0, 1) := by decide +kernel
theorem dX7_byNothing_7 : decode cX7_byNothing 7 = .ok (.istore 10, 2) := by decide +kernel
theorem dX7_byNothing_9 : decode cX7_byNothing 9 = .ok (.iload 10, 2) := by decide +kernel
theorem dX7_byNothing_11 : decode cX7_byNothing 11 = .ok (.iload 4, 2) := by decide +kernel
theorem dX7_byNothing_13 : decode cX7_byNothing 13 = .ok (.if_icmp .ge 17, 3) := by decide +kernel
theorem dX7_byNothing_16 : decode cX7_byNothing 16 = .ok (.lload 8, 2) := by decide +kernel
theorem dX7_byNothing_18 : decode cX7_byNothing 18 = .ok (.ldc2_w 213, 3) := by decide +kernel
theorem dX7_byNothing_21 : decode cX7_byNothing 21 = .ok (.lmul, 1) := by decide +kernel
theorem dX7_byNothing_22 : decode cX7_byNothing 22 = .ok (.lstore 8, 2) := by decide +kernel
theorem dX7_byNothing_24 : decode cX7_byNothing 24 = .ok (.iinc 10 1, 3) := by decide +kernel
theorem dX7_byNothing_27 : decode cX7_byNothing 27 = .ok (.goto (-18), 3) := by decide +kernel
theorem dX7_byNothing_30 : decode cX7_byNothing 30 = .ok (.iconst 0, 1) := by decide +kernel
theorem dX7_byNothing_31 : decode cX7_byNothing 31 = .ok (.istore 10, 2) := by decide +kernel
theorem dX7_byNothing_33 : decode cX7_byNothing 33 = .ok (.iload 10, 2) := by decide +kernel
theorem dX7_byNothing_35 : decode cX7_byNothing 35 = .ok (.iconst 1, 1) := by decide +kernel
theorem dX7_byNothing_36 : decode cX7_byNothing 36 = .ok (.iload 4, 2) := by decide +kernel
theorem dX7_byNothing_38 : decode cX7_byNothing 38 = .ok (.ishl, 1) := by decide +kernel
theorem dX7_byNothing_39 : decode cX7_byNothing 39 = .ok (.if_icmp .ge 131, 3) := by decide +kernel
theorem dX7_byNothing_42 : decode cX7_byNothing 42 = .ok (.lconst 1, 1) := by decide +kernel
theorem dX7_byNothing_43 : decode cX7_byNothing 43 = .ok (.lstore 11, 2) := by decide +kernel
theorem dX7_byNothing_45 : decode cX7_byNothing 45 = .ok (.aload_n 0, 1) := by decide +kernel
theorem dX7_byNothing_46 : decode cX7_byNothing 46 = .ok (.iconst 0, 1) := by decide +kernel
theorem dX7_byNothing_47 : decode cX7_byNothing 47 = .ok (.sipush 300, 3) := by decide +kernel
theorem dX7_byNothing_50 : decode cX7_byNothing 50 = .ok (.invokevirtual 193, 3) := by decide +kernel
theorem dX7_byNothing_53 : decode cX7_byNothing 53 = .ok (.aload_n 0, 1) := by decide +kernel
theorem dX7_byNothing_54 : decode cX7_byNothing 54 = .ok (.invokevirtual 183, 3) := by decide +kernel
theorem dX7_byNothing_57 : decode cX7_byNothing 57 = .ok (.iconst 0, 1) := by decide +kernel
theorem dX7_byNothing_58 : decode cX7_byNothing 58 = .ok (.istore 13, 2) := by decide +kernel
theorem dX7_byNothing_60 : decode cX7_byNothing 60 = .ok (.iload 13, 2) := by decide +kernel
theorem dX7_byNothing_62 : decode cX7_byNothing 62 = .ok (.iload 4, 2) := by decide +kernel
theorem dX7_byNothing_64 : decode cX7_byNothing 64 = .ok (.if_icmp .ge 56, 3) := by decide +kernel
theorem dX7_byNothing_67 : decode cX7_byNothing 67 = .ok (.iload 10, 2) := by decide +kernel
theorem dX7_byNothing_69 : decode cX7_byNothing 69 = .ok (.iload 13, 2) := by decide +kernel
theorem dX7_byNothing_71 : decode cX7_byNothing 71 = .ok (.ishr, 1) := by decide +kernel
theorem dX7_byNothing_72 : decode cX7_byNothing 72 = .ok (.iconst 1, 1) := by decide +kernel
theorem dX7_byNothing_73 : decode cX7_byNothing 73 = .ok (.iand, 1) := by decide +kernel
theorem dX7_byNothing_74 : decode cX7_byNothing 74 = .ok (.iconst 1, 1) := by decide +kernel
theorem dX7_byNothing_75 : decode cX7_byNothing 75 = .ok (.if_icmp .ne 7, 3) := by decide +kernel
theorem dX7_byNothing_78 : decode cX7_byNothing 78 = .ok (.iconst 1, 1) := by decide +kernel
theorem dX7_byNothing_79 : decode cX7_byNothing 79 = .ok (.goto 4, 3) := by decide +kernel
theorem dX7_byNothing_82 : decode cX7_byNothing 82 = .ok (.iconst 0, 1) := by decide +kernel
theorem dX7_byNothing_83 : decode cX7_byNothing 83 = .ok (.istore 14, 2) := by decide +kernel
theorem dX7_byNothing_85 : decode cX7_byNothing 85 = .ok (.lload 11, 2) := by decide +kernel
theorem dX7_byNothing_87 : decode cX7_byNothing 87 = .ok (.iload 14, 2) := by decide +kernel
theorem dX7_byNothing_89 : decode cX7_byNothing 89 = .ok (.ifCond .eq 8, 3) := by decide +kernel
theorem dX7_byNothing_92 : decode cX7_byNothing 92 = .ok (.iload_n 1, 1) := by decide +kernel
theorem dX7_byNothing_93 : decode cX7_byNothing 93 = .ok (.i2l, 1) := by decide +kernel
theorem dX7_byNothing_94 : decode cX7_byNothing 94 = .ok (.goto 8, 3) := by decide +kernel
theorem dX7_byNothing_97 : decode cX7_byNothing 97 = .ok (.bipush 10, 2) := by decide +kernel
theorem dX7_byNothing_99 : decode cX7_byNothing 99 = .ok (.iload_n 1, 1) := by decide +kernel
theorem dX7_byNothing_100 : decode cX7_byNothing 100 = .ok (.isub, 1) := by decide +kernel
theorem dX7_byNothing_101 : decode cX7_byNothing 101 = .ok (.i2l, 1) := by decide +kernel
theorem dX7_byNothing_102 : decode cX7_byNothing 102 = .ok (.lmul, 1) := by decide +kernel
theorem dX7_byNothing_103 : decode cX7_byNothing 103 = .ok (.lstore 11, 2) := by decide +kernel
theorem dX7_byNothing_105 : decode cX7_byNothing 105 = .ok (.aload_n 0, 1) := by decide +kernel
theorem dX7_byNothing_106 : decode cX7_byNothing 106 = .ok (.sipush 300, 3) := by decide +kernel
theorem dX7_byNothing_109 : decode cX7_byNothing 109 = .ok (.iload 14, 2) := by decide +kernel
theorem dX7_byNothing_111 : decode cX7_byNothing 111 = .ok (.invokevirtual 186, 3) := by decide +kernel
theorem dX7_byNothing_114 : decode cX7_byNothing 114 = .ok (.iinc 13 1, 3) := by decide +kernel
theorem dX7_byNothing_117 : decode cX7_byNothing 117 = .ok (.goto (-57), 3) := by decide +kernel
theorem dX7_byNothing_120 : decode cX7_byNothing 120 = .ok (.lload 6, 2) := by decide +kernel
theorem dX7_byNothing_122 : decode cX7_byNothing 122 = .ok (.lload 11, 2) := by decide +kernel
theorem dX7_byNothing_124 : decode cX7_byNothing 124 = .ok (.iload_n 2, 1) := by decide +kernel
theorem dX7_byNothing_125 : decode cX7_byNothing 125 = .ok (.bipush (-4), 2) := by decide +kernel
theorem dX7_byNothing_127 : decode cX7_byNothing 127 = .ok (.if_icmp .ne 10, 3) := by decide +kernel
theorem dX7_byNothing_130 : decode cX7_byNothing 130 = .ok (.aload_n 0, 1) := by decide +kernel
theorem dX7_byNothing_131 : decode cX7_byNothing 131 = .ok (.invokevirtual 190, 3) := by decide +kernel
theorem dX7_byNothing_134 : decode cX7_byNothing 134 = .ok (.goto 25, 3) := by decide +kernel
theorem dX7_byNothing_137 : decode cX7_byNothing 137 = .ok (.aload_n 0, 1) := by decide +kernel
theorem dX7_byNothing_138 : decode cX7_byNothing 138 = .ok (.getfield 7, 3) := by decide +kernel
theorem dX7_byNothing_141 : decode cX7_byNothing 141 = .ok (.sipush 327, 3) := by decide +kernel
theorem dX7_byNothing_144 : decode cX7_byNothing 144 = .ok (.bipush 6, 2) := by decide +kernel
theorem dX7_byNothing_146 : decode cX7_byNothing 146 = .ok (.iload_n 2, 1) := by decide +kernel
theorem dX7_byNothing_147 : decode cX7_byNothing 147 = .ok (.imul, 1) := by decide +kernel
theorem dX7_byNothing_148 : decode cX7_byNothing 148 = .ok (.iadd, 1) := by decide +kernel
theorem dX7_byNothing_149 : decode cX7_byNothing 149 = .ok (.iaload, 1) := by decide +kernel
theorem dX7_byNothing_150 : decode cX7_byNothing 150 = .ok (.iload_n 3, 1) := by decide +kernel
theorem dX7_byNothing_151 : decode cX7_byNothing 151 = .ok (.if_icmp .ne 7, 3) := by decide +kernel
theorem dX7_byNothing_154 : decode cX7_byNothing 154 = .ok (.iconst 1, 1) := by decide +kernel
theorem dX7_byNothing_155 : decode cX7_byNothing 155 = .ok (.goto 4, 3) := by decide +kernel
theorem dX7_byNothing_158 : decode cX7_byNothing 158 = .ok (.iconst 0, 1) := by decide +kernel
theorem dX7_byNothing_159 : decode cX7_byNothing 159 = .ok (.i2l, 1) := by decide +kernel
theorem dX7_byNothing_160 : decode cX7_byNothing 160 = .ok (.lmul, 1) := by decide +kernel
theorem dX7_byNothing_161 : decode cX7_byNothing 161 = .ok (.ladd, 1) := by decide +kernel
theorem dX7_byNothing_162 : decode cX7_byNothing 162 = .ok (.lstore 6, 2) := by decide +kernel
theorem dX7_byNothing_164 : decode cX7_byNothing 164 = .ok (.iinc 10 1, 3) := by decide +kernel
theorem dX7_byNothing_167 : decode cX7_byNothing 167 = .ok (.goto (-134), 3) := by decide +kernel
theorem dX7_byNothing_170 : decode cX7_byNothing 170 = .ok (.lload 6, 2) := by decide +kernel
theorem dX7_byNothing_172 : decode cX7_byNothing 172 = .ok (.lload 8, 2) := by decide +kernel
theorem dX7_byNothing_174 : decode cX7_byNothing 174 = .ok (.iload 5, 2) := by decide +kernel
theorem dX7_byNothing_176 : decode cX7_byNothing 176 = .ok (.invokestatic 215, 3) := by decide +kernel
theorem dX7_byNothing_179 : decode cX7_byNothing 179 = .ok (.lreturn, 1) := by decide +kernel
theorem dX7_luck_0 : decode cX7_luck 0 = .ok (.iload_n 1, 1) := by decide +kernel
theorem dX7_luck_1 : decode cX7_luck 1 = .ok (.i2l, 1) := by decide +kernel
theorem dX7_luck_2 : decode cX7_luck 2 = .ok (.lconst 0, 1) := by decide +kernel
theorem dX7_luck_3 : decode cX7_luck 3 = .ok (.ldc2_w 213, 3) := by decide +kernel
theorem dX7_luck_6 : decode cX7_luck 6 = .ok (.invokestatic 56, 3) := by decide +kernel
theorem dX7_luck_9 : decode cX7_luck 9 = .ok (.ifCond .eq 57, 3) := by decide +kernel
theorem dX7_luck_12 : decode cX7_luck 12 = .ok (.aload_n 0, 1) := by decide +kernel
theorem dX7_luck_13 : decode cX7_luck 13 = .ok (.iload_n 2, 1) := by decide +kernel
theorem dX7_luck_14 : decode cX7_luck 14 = .ok (.invokevirtual 162, 3) := by decide +kernel
theorem dX7_luck_17 : decode cX7_luck 17 = .ok (.ifCond .eq 49, 3) := by decide +kernel
theorem dX7_luck_20 : decode cX7_luck 20 = .ok (.aload_n 0, 1) := by decide +kernel
theorem dX7_luck_21 : decode cX7_luck 21 = .ok (.iload_n 3, 1) := by decide +kernel
theorem dX7_luck_22 : decode cX7_luck 22 = .ok (.invokevirtual 166, 3) := by decide +kernel
theorem dX7_luck_25 : decode cX7_luck 25 = .ok (.ifCond .eq 41, 3) := by decide +kernel
theorem dX7_luck_28 : decode cX7_luck 28 = .ok (.iload 4, 2) := by decide +kernel
theorem dX7_luck_30 : decode cX7_luck 30 = .ok (.i2l, 1) := by decide +kernel
theorem dX7_luck_31 : decode cX7_luck 31 = .ok (.lconst 0, 1) := by decide +kernel
theorem dX7_luck_32 : decode cX7_luck 32 = .ok (.ldc2_w 219, 3) := by decide +kernel
theorem dX7_luck_35 : decode cX7_luck 35 = .ok (.invokestatic 56, 3) := by decide +kernel
theorem dX7_luck_38 : decode cX7_luck 38 = .ok (.ifCond .eq 28, 3) := by decide +kernel
theorem dX7_luck_41 : decode cX7_luck 41 = .ok (.iload 5, 2) := by decide +kernel
theorem dX7_luck_43 : decode cX7_luck 43 = .ok (.i2l, 1) := by decide +kernel
theorem dX7_luck_44 : decode cX7_luck 44 = .ok (.lconst 0, 1) := by decide +kernel
theorem dX7_luck_45 : decode cX7_luck 45 = .ok (.lconst 1, 1) := by decide +kernel
theorem dX7_luck_46 : decode cX7_luck 46 = .ok (.invokestatic 56, 3) := by decide +kernel
theorem dX7_luck_49 : decode cX7_luck 49 = .ok (.ifCond .eq 17, 3) := by decide +kernel
theorem dX7_luck_52 : decode cX7_luck 52 = .ok (.aload_n 0, 1) := by decide +kernel
theorem dX7_luck_53 : decode cX7_luck 53 = .ok (.iload_n 1, 1) := by decide +kernel
theorem dX7_luck_54 : decode cX7_luck 54 = .ok (.iload_n 2, 1) := by decide +kernel
theorem dX7_luck_55 : decode cX7_luck 55 = .ok (.iload_n 3, 1) := by decide +kernel
theorem dX7_luck_56 : decode cX7_luck 56 = .ok (.iload 4, 2) := by decide +kernel
theorem dX7_luck_58 : decode cX7_luck 58 = .ok (.iload 5, 2) := by decide +kernel
theorem dX7_luck_60 : decode cX7_luck 60 = .ok (.invokevirtual 221, 3) := by decide +kernel
theorem dX7_luck_63 : decode cX7_luck 63 = .ok (.goto 6, 3) := by decide +kernel
theorem dX7_luck_66 : decode cX7_luck 66 = .ok (.ldc2_w 225, 3) := by decide +kernel
theorem dX7_luck_69 : decode cX7_luck 69 = .ok (.lreturn, 1) := by decide +kernel
theorem dX7_mean_0 : decode cX7_mean 0 = .ok (.iload_n 1, 1) := by decide +kernel
theorem dX7_mean_1 : decode cX7_mean 1 = .ok (.i2l, 1) := by decide +kernel
theorem dX7_mean_2 : decode cX7_mean 2 = .ok (.lconst 0, 1) := by decide +kernel
theorem dX7_mean_3 : decode cX7_mean 3 = .ok (.ldc2_w 213, 3) := by decide +kernel
theorem dX7_mean_6 : decode cX7_mean 6 = .ok (.invokestatic 56, 3) := by decide +kernel
theorem dX7_mean_9 : decode cX7_mean 9 = .ok (.ifCond .eq 38, 3) := by decide +kernel
theorem dX7_mean_12 : decode cX7_mean 12 = .ok (.iload_n 2, 1) := by decide +kernel
theorem dX7_mean_13 : decode cX7_mean 13 = .ok (.i2l, 1) := by decide +kernel
theorem dX7_mean_14 : decode cX7_mean 14 = .ok (.lconst 0, 1) := by decide +kernel
theorem dX7_mean_15 : decode cX7_mean 15 = .ok (.ldc2_w 219, 3) := by decide +kernel
theorem dX7_mean_18 : decode cX7_mean 18 = .ok (.invokestatic 56, 3) := by decide +kernel
theorem dX7_mean_21 : decode cX7_mean 21 = .ok (.ifCond .eq 26, 3) := by decide +kernel
theorem dX7_mean_24 : decode cX7_mean 24 = .ok (.iload_n 3, 1) := by decide +kernel
theorem dX7_mean_25 : decode cX7_mean 25 = .ok (.i2l, 1) := by decide +kernel
theorem dX7_mean_26 : decode cX7_mean 26 = .ok (.lconst 0, 1) := by decide +kernel
theorem dX7_mean_27 : decode cX7_mean 27 = .ok (.lconst 1, 1) := by decide +kernel
theorem dX7_mean_28 : decode cX7_mean 28 = .ok (.invokestatic 56, 3) := by decide +kernel
theorem dX7_mean_31 : decode cX7_mean 31 = .ok (.ifCond .eq 16, 3) := by decide +kernel
theorem dX7_mean_34 : decode cX7_mean 34 = .ok (.aload_n 0, 1) := by decide +kernel
theorem dX7_mean_35 : decode cX7_mean 35 = .ok (.iload_n 1, 1) := by decide +kernel
theorem dX7_mean_36 : decode cX7_mean 36 = .ok (.bipush (-4), 2) := by decide +kernel
theorem dX7_mean_38 : decode cX7_mean 38 = .ok (.iconst 0, 1) := by decide +kernel
theorem dX7_mean_39 : decode cX7_mean 39 = .ok (.iload_n 2, 1) := by decide +kernel
theorem dX7_mean_40 : decode cX7_mean 40 = .ok (.iload_n 3, 1) := by decide +kernel
theorem dX7_mean_41 : decode cX7_mean 41 = .ok (.invokevirtual 221, 3) := by decide +kernel
theorem dX7_mean_44 : decode cX7_mean 44 = .ok (.goto 6, 3) := by decide +kernel
theorem dX7_mean_47 : decode cX7_mean 47 = .ok (.ldc2_w 225, 3) := by decide +kernel
theorem dX7_mean_50 : decode cX7_mean 50 = .ok (.lreturn, 1) := by decide +kernel
theorem dX7_see_0 : decode cX7_see 0 = .ok (.iload_n 1, 1) := by decide +kernel
theorem dX7_see_1 : decode cX7_see 1 = .ok (.i2l, 1) := by decide +kernel
theorem dX7_see_2 : decode cX7_see 2 = .ok (.lconst 0, 1) := by decide +kernel
theorem dX7_see_3 : decode cX7_see 3 = .ok (.ldc2_w 227, 3) := by decide +kernel
theorem dX7_see_6 : decode cX7_see 6 = .ok (.invokestatic 56, 3) := by decide +kernel
theorem dX7_see_9 : decode cX7_see 9 = .ok (.ifCond .eq 19, 3) := by decide +kernel
theorem dX7_see_12 : decode cX7_see 12 = .ok (.aload_n 0, 1) := by decide +kernel
theorem dX7_see_13 : decode cX7_see 13 = .ok (.iload_n 2, 1) := by decide +kernel
theorem dX7_see_14 : decode cX7_see 14 = .ok (.invokevirtual 162, 3) := by decide +kernel
theorem dX7_see_17 : decode cX7_see 17 = .ok (.ifCond .eq 11, 3) := by decide +kernel
theorem dX7_see_20 : decode cX7_see 20 = .ok (.aload_n 0, 1) := by decide +kernel
theorem dX7_see_21 : decode cX7_see 21 = .ok (.iload_n 3, 1) := by decide +kernel
theorem dX7_see_22 : decode cX7_see 22 = .ok (.invokevirtual 166, 3) := by decide +kernel
theorem dX7_see_25 : decode cX7_see 25 = .ok (.ifCond .ne 5, 3) := by decide +kernel
theorem dX7_see_28 : decode cX7_see 28 = .ok (.iconst (-1), 1) := by decide +kernel
theorem dX7_see_29 : decode cX7_see 29 = .ok (.ireturn, 1) := by decide +kernel
theorem dX7_see_30 : decode cX7_see 30 = .ok (.aload_n 0, 1) := by decide +kernel
theorem dX7_see_31 : decode cX7_see 31 = .ok (.getfield 135, 3) := by decide +kernel
theorem dX7_see_34 : decode cX7_see 34 = .ok (.bipush 6, 2) := by decide +kernel
theorem dX7_see_36 : decode cX7_see 36 = .ok (.if_icmp .ne 6, 3) := by decide +kernel
theorem dX7_see_39 : decode cX7_see 39 = .ok (.bipush (-3), 2) := by decide +kernel
theorem dX7_see_41 : decode cX7_see 41 = .ok (.ireturn, 1) := by decide +kernel
theorem dX7_see_42 : decode cX7_see 42 = .ok (.aload_n 0, 1) := by decide +kernel
theorem dX7_see_43 : decode cX7_see 43 = .ok (.getfield 35, 3) := by decide +kernel
theorem dX7_see_46 : decode cX7_see 46 = .ok (.iconst 3, 1) := by decide +kernel
theorem dX7_see_47 : decode cX7_see 47 = .ok (.aload_n 0, 1) := by decide +kernel
theorem dX7_see_48 : decode cX7_see 48 = .ok (.getfield 135, 3) := by decide +kernel
theorem dX7_see_51 : decode cX7_see 51 = .ok (.imul, 1) := by decide +kernel
theorem dX7_see_52 : decode cX7_see 52 = .ok (.iload_n 1, 1) := by decide +kernel
theorem dX7_see_53 : decode cX7_see 53 = .ok (.iastore, 1) := by decide +kernel
theorem dX7_see_54 : decode cX7_see 54 = .ok (.aload_n 0, 1) := by decide +kernel
theorem dX7_see_55 : decode cX7_see 55 = .ok (.getfield 35, 3) := by decide +kernel
theorem dX7_see_58 : decode cX7_see 58 = .ok (.iconst 3, 1) := by decide +kernel
theorem dX7_see_59 : decode cX7_see 59 = .ok (.aload_n 0, 1) := by decide +kernel
theorem dX7_see_60 : decode cX7_see 60 = .ok (.getfield 135, 3) := by decide +kernel
theorem dX7_see_63 : decode cX7_see 63 = .ok (.imul, 1) := by decide +kernel
theorem dX7_see_64 : decode cX7_see 64 = .ok (.iconst 1, 1) := by decide +kernel
theorem dX7_see_65 : decode cX7_see 65 = .ok (.iadd, 1) := by decide +kernel
theorem dX7_see_66 : decode cX7_see 66 = .ok (.iload_n 2, 1) := by decide +kernel
theorem dX7_see_67 : decode cX7_see 67 = .ok (.iastore, 1) := by decide +kernel
theorem dX7_see_68 : decode cX7_see 68 = .ok (.aload_n 0, 1) := by decide +kernel
theorem dX7_see_69 : decode cX7_see 69 = .ok (.getfield 35, 3) := by decide +kernel
theorem dX7_see_72 : decode cX7_see 72 = .ok (.iconst 3, 1) := by decide +kernel
theorem dX7_see_73 : decode cX7_see 73 = .ok (.aload_n 0, 1) := by decide +kernel
theorem dX7_see_74 : decode cX7_see 74 = .ok (.getfield 135, 3) := by decide +kernel
theorem dX7_see_77 : decode cX7_see 77 = .ok (.imul, 1) := by decide +kernel
theorem dX7_see_78 : decode cX7_see 78 = .ok (.iconst 2, 1) := by decide +kernel
theorem dX7_see_79 : decode cX7_see 79 = .ok (.iadd, 1) := by decide +kernel
theorem dX7_see_80 : decode cX7_see 80 = .ok (.iload_n 3, 1) := by decide +kernel
theorem dX7_see_81 : decode cX7_see 81 = .ok (.iastore, 1) := by decide +kernel
theorem dX7_see_82 : decode cX7_see 82 = .ok (.aload_n 0, 1) := by decide +kernel
theorem dX7_see_83 : decode cX7_see 83 = .ok (.dup, 1) := by decide +kernel
theorem dX7_see_84 : decode cX7_see 84 = .ok (.getfield 135, 3) := by decide +kernel
theorem dX7_see_87 : decode cX7_see 87 = .ok (.iconst 1, 1) := by decide +kernel
theorem dX7_see_88 : decode cX7_see 88 = .ok (.iadd, 1) := by decide +kernel
theorem dX7_see_89 : decode cX7_see 89 = .ok (.putfield 135, 3) := by decide +kernel
theorem dX7_see_92 : decode cX7_see 92 = .ok (.aload_n 0, 1) := by decide +kernel
theorem dX7_see_93 : decode cX7_see 93 = .ok (.getfield 135, 3) := by decide +kernel
theorem dX7_see_96 : decode cX7_see 96 = .ok (.ireturn, 1) := by decide +kernel
theorem dX7_forget_0 : decode cX7_forget 0 = .ok (.iload_n 1, 1) := by decide +kernel
theorem dX7_forget_1 : decode cX7_forget 1 = .ok (.i2l, 1) := by decide +kernel
theorem dX7_forget_2 : decode cX7_forget 2 = .ok (.lconst 0, 1) := by decide +kernel
theorem dX7_forget_3 : decode cX7_forget 3 = .ok (.aload_n 0, 1) := by decide +kernel
theorem dX7_forget_4 : decode cX7_forget 4 = .ok (.getfield 135, 3) := by decide +kernel
theorem dX7_forget_7 : decode cX7_forget 7 = .ok (.i2l, 1) := by decide +kernel
theorem dX7_forget_8 : decode cX7_forget 8 = .ok (.invokestatic 56, 3) := by decide +kernel
theorem dX7_forget_11 : decode cX7_forget 11 = .ok (.ifCond .ne 5, 3) := by decide +kernel
theorem dX7_forget_14 : decode cX7_forget 14 = .ok (.iconst (-1), 1) := by decide +kernel
theorem dX7_forget_15 : decode cX7_forget 15 = .ok (.ireturn, 1) := by decide +kernel
theorem dX7_forget_16 : decode cX7_forget 16 = .ok (.aload_n 0, 1) := by decide +kernel
theorem dX7_forget_17 : decode cX7_forget 17 = .ok (.getfield 135, 3) := by decide +kernel
theorem dX7_forget_20 : decode cX7_forget 20 = .ok (.istore_n 2, 1) := by decide +kernel
theorem dX7_forget_21 : decode cX7_forget 21 = .ok (.aload_n 0, 1) := by decide +kernel
theorem dX7_forget_22 : decode cX7_forget 22 = .ok (.iload_n 1, 1) := by decide +kernel
theorem dX7_forget_23 : decode cX7_forget 23 = .ok (.putfield 135, 3) := by decide +kernel
theorem dX7_forget_26 : decode cX7_forget 26 = .ok (.iload_n 2, 1) := by decide +kernel
theorem dX7_forget_27 : decode cX7_forget 27 = .ok (.ireturn, 1) := by decide +kernel
theorem dX7_isAsSeen_0 : decode cX7_isAsSeen 0 = .ok (.aload_n 0, 1) := by decide +kernel
theorem dX7_isAsSeen_1 : decode cX7_isAsSeen 1 = .ok (.iconst 0, 1) := by decide +kernel
theorem dX7_isAsSeen_2 : decode cX7_isAsSeen 2 = .ok (.sipush 300, 3) := by decide +kernel
theorem dX7_isAsSeen_5 : decode cX7_isAsSeen 5 = .ok (.invokevirtual 193, 3) := by decide +kernel
theorem dX7_isAsSeen_8 : decode cX7_isAsSeen 8 = .ok (.iconst 1, 1) := by decide +kernel
theorem dX7_isAsSeen_9 : decode cX7_isAsSeen 9 = .ok (.istore_n 2, 1) := by decide +kernel
theorem dX7_isAsSeen_10 : decode cX7_isAsSeen 10 = .ok (.iconst 0, 1) := by decide +kernel
theorem dX7_isAsSeen_11 : decode cX7_isAsSeen 11 = .ok (.istore_n 3, 1) := by decide +kernel
theorem dX7_isAsSeen_12 : decode cX7_isAsSeen 12 = .ok (.iload_n 3, 1) := by decide +kernel
theorem dX7_isAsSeen_13 : decode cX7_isAsSeen 13 = .ok (.bipush 40, 2) := by decide +kernel
theorem dX7_isAsSeen_15 : decode cX7_isAsSeen 15 = .ok (.if_icmp .gt 175, 3) := by decide +kernel
theorem dX7_isAsSeen_18 : decode cX7_isAsSeen 18 = .ok (.iconst 0, 1) := by decide +kernel
theorem dX7_isAsSeen_19 : decode cX7_isAsSeen 19 = .ok (.istore 4, 2) := by decide +kernel
theorem dX7_isAsSeen_21 : decode cX7_isAsSeen 21 = .ok (.iload 4, 2) := by decide +kernel
theorem dX7_isAsSeen_23 : decode cX7_isAsSeen 23 = .ok (.aload_n 0, 1) := by decide +kernel
theorem dX7_isAsSeen_24 : decode cX7_isAsSeen 24 = .ok (.getfield 7, 3) := by decide +kernel
theorem dX7_isAsSeen_27 : decode cX7_isAsSeen 27 = .ok (.bipush 8, 2) := by decide +kernel
theorem dX7_isAsSeen_29 : decode cX7_isAsSeen 29 = .ok (.iaload, 1) := by decide +kernel
theorem dX7_isAsSeen_30 : decode cX7_isAsSeen 30 = .ok (.if_icmp .ge 40, 3) := by decide +kernel
theorem dX7_isAsSeen_33 : decode cX7_isAsSeen 33 = .ok (.aload_n 0, 1) := by decide +kernel
theorem dX7_isAsSeen_34 : decode cX7_isAsSeen 34 = .ok (.getfield 38, 3) := by decide +kernel
theorem dX7_isAsSeen_37 : decode cX7_isAsSeen 37 = .ok (.sipush 164, 3) := by decide +kernel
theorem dX7_isAsSeen_40 : decode cX7_isAsSeen 40 = .ok (.iload_n 1, 1) := by decide +kernel
theorem dX7_isAsSeen_41 : decode cX7_isAsSeen 41 = .ok (.imul, 1) := by decide +kernel
theorem dX7_isAsSeen_42 : decode cX7_isAsSeen 42 = .ok (.iconst 4, 1) := by decide +kernel
theorem dX7_isAsSeen_43 : decode cX7_isAsSeen 43 = .ok (.iload_n 3, 1) := by decide +kernel
theorem dX7_isAsSeen_44 : decode cX7_isAsSeen 44 = .ok (.imul, 1) := by decide +kernel
theorem dX7_isAsSeen_45 : decode cX7_isAsSeen 45 = .ok (.iadd, 1) := by decide +kernel
theorem dX7_isAsSeen_46 : decode cX7_isAsSeen 46 = .ok (.iload 4, 2) := by decide +kernel
theorem dX7_isAsSeen_48 : decode cX7_isAsSeen 48 = .ok (.iadd, 1) := by decide +kernel
theorem dX7_isAsSeen_49 : decode cX7_isAsSeen 49 = .ok (.aload_n 0, 1) := by decide +kernel
theorem dX7_isAsSeen_50 : decode cX7_isAsSeen 50 = .ok (.getfield 7, 3) := by decide +kernel
theorem dX7_isAsSeen_53 : decode cX7_isAsSeen 53 = .ok (.sipush 327, 3) := by decide +kernel
theorem dX7_isAsSeen_56 : decode cX7_isAsSeen 56 = .ok (.bipush 6, 2) := by decide +kernel
theorem dX7_isAsSeen_58 : decode cX7_isAsSeen 58 = .ok (.iload 4, 2) := by decide +kernel
theorem dX7_isAsSeen_60 : decode cX7_isAsSeen 60 = .ok (.imul, 1) := by decide +kernel
theorem dX7_isAsSeen_61 : decode cX7_isAsSeen 61 = .ok (.iadd, 1) := by decide +kernel
theorem dX7_isAsSeen_62 : decode cX7_isAsSeen 62 = .ok (.iaload, 1) := by decide +kernel
theorem dX7_isAsSeen_63 : decode cX7_isAsSeen 63 = .ok (.iastore, 1) := by decide +kernel
theorem dX7_isAsSeen_64 : decode cX7_isAsSeen 64 = .ok (.iinc 4 1, 3) := by decide +kernel
theorem dX7_isAsSeen_67 : decode cX7_isAsSeen 67 = .ok (.goto (-46), 3) := by decide +kernel
theorem dX7_isAsSeen_70 : decode cX7_isAsSeen 70 = .ok (.iconst 0, 1) := by decide +kernel
theorem dX7_isAsSeen_71 : decode cX7_isAsSeen 71 = .ok (.istore 4, 2) := by decide +kernel
theorem dX7_isAsSeen_73 : decode cX7_isAsSeen 73 = .ok (.iload 4, 2) := by decide +kernel
theorem dX7_isAsSeen_75 : decode cX7_isAsSeen 75 = .ok (.aload_n 0, 1) := by decide +kernel
theorem dX7_isAsSeen_76 : decode cX7_isAsSeen 76 = .ok (.getfield 135, 3) := by decide +kernel
theorem dX7_isAsSeen_79 : decode cX7_isAsSeen 79 = .ok (.if_icmp .ge 97, 3) := by decide +kernel
theorem dX7_isAsSeen_82 : decode cX7_isAsSeen 82 = .ok (.aload_n 0, 1) := by decide +kernel
theorem dX7_isAsSeen_83 : decode cX7_isAsSeen 83 = .ok (.getfield 35, 3) := by decide +kernel
theorem dX7_isAsSeen_86 : decode cX7_isAsSeen 86 = .ok (.iconst 3, 1) := by decide +kernel
theorem dX7_isAsSeen_87 : decode cX7_isAsSeen 87 = .ok (.iload 4, 2) := by decide +kernel
theorem dX7_isAsSeen_89 : decode cX7_isAsSeen 89 = .ok (.imul, 1) := by decide +kernel
theorem dX7_isAsSeen_90 : decode cX7_isAsSeen 90 = .ok (.iconst 1, 1) := by decide +kernel
theorem dX7_isAsSeen_91 : decode cX7_isAsSeen 91 = .ok (.iadd, 1) := by decide +kernel
theorem dX7_isAsSeen_92 : decode cX7_isAsSeen 92 = .ok (.iaload, 1) := by decide +kernel
theorem dX7_isAsSeen_93 : decode cX7_isAsSeen 93 = .ok (.istore 5, 2) := by decide +kernel
theorem dX7_isAsSeen_95 : decode cX7_isAsSeen 95 = .ok (.iload 5, 2) := by decide +kernel
theorem dX7_isAsSeen_97 : decode cX7_isAsSeen 97 = .ok (.aload_n 0, 1) := by decide +kernel
theorem dX7_isAsSeen_98 : decode cX7_isAsSeen 98 = .ok (.getfield 7, 3) := by decide +kernel
theorem dX7_isAsSeen_101 : decode cX7_isAsSeen 101 = .ok (.bipush 8, 2) := by decide +kernel
theorem dX7_isAsSeen_103 : decode cX7_isAsSeen 103 = .ok (.iaload, 1) := by decide +kernel
theorem dX7_isAsSeen_104 : decode cX7_isAsSeen 104 = .ok (.if_icmp .ge 35, 3) := by decide +kernel
theorem dX7_isAsSeen_107 : decode cX7_isAsSeen 107 = .ok (.aload_n 0, 1) := by decide +kernel
theorem dX7_isAsSeen_108 : decode cX7_isAsSeen 108 = .ok (.getfield 7, 3) := by decide +kernel
theorem dX7_isAsSeen_111 : decode cX7_isAsSeen 111 = .ok (.sipush 327, 3) := by decide +kernel
theorem dX7_isAsSeen_114 : decode cX7_isAsSeen 114 = .ok (.bipush 6, 2) := by decide +kernel
theorem dX7_isAsSeen_116 : decode cX7_isAsSeen 116 = .ok (.iload 5, 2) := by decide +kernel
theorem dX7_isAsSeen_118 : decode cX7_isAsSeen 118 = .ok (.imul, 1) := by decide +kernel
theorem dX7_isAsSeen_119 : decode cX7_isAsSeen 119 = .ok (.iadd, 1) := by decide +kernel
theorem dX7_isAsSeen_120 : decode cX7_isAsSeen 120 = .ok (.iaload, 1) := by decide +kernel
theorem dX7_isAsSeen_121 : decode cX7_isAsSeen 121 = .ok (.aload_n 0, 1) := by decide +kernel
theorem dX7_isAsSeen_122 : decode cX7_isAsSeen 122 = .ok (.getfield 35, 3) := by decide +kernel
theorem dX7_isAsSeen_125 : decode cX7_isAsSeen 125 = .ok (.iconst 3, 1) := by decide +kernel
theorem dX7_isAsSeen_126 : decode cX7_isAsSeen 126 = .ok (.iload 4, 2) := by decide +kernel
theorem dX7_isAsSeen_128 : decode cX7_isAsSeen 128 = .ok (.imul, 1) := by decide +kernel
theorem dX7_isAsSeen_129 : decode cX7_isAsSeen 129 = .ok (.iconst 2, 1) := by decide +kernel
theorem dX7_isAsSeen_130 : decode cX7_isAsSeen 130 = .ok (.iadd, 1) := by decide +kernel
theorem dX7_isAsSeen_131 : decode cX7_isAsSeen 131 = .ok (.iaload, 1) := by decide +kernel
theorem dX7_isAsSeen_132 : decode cX7_isAsSeen 132 = .ok (.if_icmp .ne 7, 3) := by decide +kernel
theorem dX7_isAsSeen_135 : decode cX7_isAsSeen 135 = .ok (.iconst 1, 1) := by decide +kernel
theorem dX7_isAsSeen_136 : decode cX7_isAsSeen 136 = .ok (.goto 4, 3) := by decide +kernel
theorem dX7_isAsSeen_139 : decode cX7_isAsSeen 139 = .ok (.iconst 0, 1) := by decide +kernel
theorem dX7_isAsSeen_140 : decode cX7_isAsSeen 140 = .ok (.istore 6, 2) := by decide +kernel
theorem dX7_isAsSeen_142 : decode cX7_isAsSeen 142 = .ok (.iload_n 2, 1) := by decide +kernel
theorem dX7_isAsSeen_143 : decode cX7_isAsSeen 143 = .ok (.ifCond .eq 25, 3) := by decide +kernel
theorem dX7_isAsSeen_146 : decode cX7_isAsSeen 146 = .ok (.aload_n 0, 1) := by decide +kernel
theorem dX7_isAsSeen_147 : decode cX7_isAsSeen 147 = .ok (.getfield 35, 3) := by decide +kernel
theorem dX7_isAsSeen_150 : decode cX7_isAsSeen 150 = .ok (.iconst 3, 1) := by decide +kernel
theorem dX7_isAsSeen_151 : decode cX7_isAsSeen 151 = .ok (.iload 4, 2) := by decide +kernel
theorem dX7_isAsSeen_153 : decode cX7_isAsSeen 153 = .ok (.imul, 1) := by decide +kernel
theorem dX7_isAsSeen_154 : decode cX7_isAsSeen 154 = .ok (.iaload, 1) := by decide +kernel
theorem dX7_isAsSeen_155 : decode cX7_isAsSeen 155 = .ok (.iload_n 3, 1) := by decide +kernel
theorem dX7_isAsSeen_156 : decode cX7_isAsSeen 156 = .ok (.if_icmp .ne 8, 3) := by decide +kernel
theorem dX7_isAsSeen_159 : decode cX7_isAsSeen 159 = .ok (.iload 6, 2) := by decide +kernel
theorem dX7_isAsSeen_161 : decode cX7_isAsSeen 161 = .ok (.ifCond .eq 7, 3) := by decide +kernel
theorem dX7_isAsSeen_164 : decode cX7_isAsSeen 164 = .ok (.iconst 1, 1) := by decide +kernel
theorem dX7_isAsSeen_165 : decode cX7_isAsSeen 165 = .ok (.goto 4, 3) := by decide +kernel
theorem dX7_isAsSeen_168 : decode cX7_isAsSeen 168 = .ok (.iconst 0, 1) := by decide +kernel
theorem dX7_isAsSeen_169 : decode cX7_isAsSeen 169 = .ok (.istore_n 2, 1) := by decide +kernel
theorem dX7_isAsSeen_170 : decode cX7_isAsSeen 170 = .ok (.iinc 4 1, 3) := by decide +kernel
theorem dX7_isAsSeen_173 : decode cX7_isAsSeen 173 = .ok (.goto (-100), 3) := by decide +kernel
theorem dX7_isAsSeen_176 : decode cX7_isAsSeen 176 = .ok (.aload_n 0, 1) := by decide +kernel
theorem dX7_isAsSeen_177 : decode cX7_isAsSeen 177 = .ok (.sipush 300, 3) := by decide +kernel
theorem dX7_isAsSeen_180 : decode cX7_isAsSeen 180 = .ok (.iconst 0, 1) := by decide +kernel
theorem dX7_isAsSeen_181 : decode cX7_isAsSeen 181 = .ok (.invokevirtual 186, 3) := by decide +kernel
theorem dX7_isAsSeen_184 : decode cX7_isAsSeen 184 = .ok (.iinc 3 1, 3) := by decide +kernel
theorem dX7_isAsSeen_187 : decode cX7_isAsSeen 187 = .ok (.goto (-175), 3) := by decide +kernel
theorem dX7_isAsSeen_190 : decode cX7_isAsSeen 190 = .ok (.iload_n 2, 1) := by decide +kernel
theorem dX7_isAsSeen_191 : decode cX7_isAsSeen 191 = .ok (.ireturn, 1) := by decide +kernel
theorem dX7_numbersAt_0 : decode cX7_numbersAt 0 = .ok (.aload_n 0, 1) := by decide +kernel
theorem dX7_numbersAt_1 : decode cX7_numbersAt 1 = .ok (.getfield 7, 3) := by decide +kernel
theorem dX7_numbersAt_4 : decode cX7_numbersAt 4 = .ok (.iload_n 1, 1) := by decide +kernel
theorem dX7_numbersAt_5 : decode cX7_numbersAt 5 = .ok (.iaload, 1) := by decide +kernel
theorem dX7_numbersAt_6 : decode cX7_numbersAt 6 = .ok (.istore_n 3, 1) := by decide +kernel
theorem dX7_numbersAt_7 : decode cX7_numbersAt 7 = .ok (.iconst 0, 1) := by decide +kernel
theorem dX7_numbersAt_8 : decode cX7_numbersAt 8 = .ok (.istore 4, 2) := by decide +kernel
theorem dX7_numbersAt_10 : decode cX7_numbersAt 10 = .ok (.iconst 0, 1) := by decide +kernel
theorem dX7_numbersAt_11 : decode cX7_numbersAt 11 = .ok (.istore 5, 2) := by decide +kernel
theorem dX7_numbersAt_13 : decode cX7_numbersAt 13 = .ok (.iload 5, 2) := by decide +kernel
theorem dX7_numbersAt_15 : decode cX7_numbersAt 15 = .ok (.iload_n 2, 1) := by decide +kernel
theorem dX7_numbersAt_16 : decode cX7_numbersAt 16 = .ok (.if_icmp .ge 39, 3) := by decide +kernel
theorem dX7_numbersAt_19 : decode cX7_numbersAt 19 = .ok (.aload_n 0, 1) := by decide +kernel
theorem dX7_numbersAt_20 : decode cX7_numbersAt 20 = .ok (.getfield 7, 3) := by decide +kernel
theorem dX7_numbersAt_23 : decode cX7_numbersAt 23 = .ok (.iload_n 1, 1) := by decide +kernel
theorem dX7_numbersAt_24 : decode cX7_numbersAt 24 = .ok (.iload 5, 2) := by decide +kernel
theorem dX7_numbersAt_26 : decode cX7_numbersAt 26 = .ok (.iastore, 1) := by decide +kernel
theorem dX7_numbersAt_27 : decode cX7_numbersAt 27 = .ok (.iload 4, 2) := by decide +kernel
theorem dX7_numbersAt_29 : decode cX7_numbersAt 29 = .ok (.aload_n 0, 1) := by decide +kernel
theorem dX7_numbersAt_30 : decode cX7_numbersAt 30 = .ok (.iload 5, 2) := by decide +kernel
theorem dX7_numbersAt_32 : decode cX7_numbersAt 32 = .ok (.invokevirtual 229, 3) := by decide +kernel
theorem dX7_numbersAt_35 : decode cX7_numbersAt 35 = .ok (.ifCond .eq 10, 3) := by decide +kernel
theorem dX7_numbersAt_38 : decode cX7_numbersAt 38 = .ok (.iconst 1, 1) := by decide +kernel
theorem dX7_numbersAt_39 : decode cX7_numbersAt 39 = .ok (.iload 5, 2) := by decide +kernel
theorem dX7_numbersAt_41 : decode cX7_numbersAt 41 = .ok (.ishl, 1) := by decide +kernel
theorem dX7_numbersAt_42 : decode cX7_numbersAt 42 = .ok (.goto 4, 3) := by decide +kernel
theorem dX7_numbersAt_45 : decode cX7_numbersAt 45 = .ok (.iconst 0, 1) := by decide +kernel
theorem dX7_numbersAt_46 : decode cX7_numbersAt 46 = .ok (.ior, 1) := by decide +kernel
theorem dX7_numbersAt_47 : decode cX7_numbersAt 47 = .ok (.istore 4, 2) := by decide +kernel
theorem dX7_numbersAt_49 : decode cX7_numbersAt 49 = .ok (.iinc 5 1, 3) := by decide +kernel
theorem dX7_numbersAt_52 : decode cX7_numbersAt 52 = .ok (.goto (-39), 3) := by decide +kernel
theorem dX7_numbersAt_55 : decode cX7_numbersAt 55 = .ok (.aload_n 0, 1) := by decide +kernel
theorem dX7_numbersAt_56 : decode cX7_numbersAt 56 = .ok (.getfield 7, 3) := by decide +kernel
theorem dX7_numbersAt_59 : decode cX7_numbersAt 59 = .ok (.iload_n 1, 1) := by decide +kernel
theorem dX7_numbersAt_60 : decode cX7_numbersAt 60 = .ok (.iload_n 3, 1) := by decide +kernel
theorem dX7_numbersAt_61 : decode cX7_numbersAt 61 = .ok (.iastore, 1) := by decide +kernel
theorem dX7_numbersAt_62 : decode cX7_numbersAt 62 = .ok (.iload 4, 2) := by decide +kernel
theorem dX7_numbersAt_64 : decode cX7_numbersAt 64 = .ok (.ireturn, 1) := by decide +kernel
theorem dX7_kinds_0 : decode cX7_kinds 0 = .ok (.aload_n 0, 1) := by decide +kernel
theorem dX7_kinds_1 : decode cX7_kinds 1 = .ok (.iload_n 1, 1) := by decide +kernel
theorem dX7_kinds_2 : decode cX7_kinds 2 = .ok (.invokevirtual 162, 3) := by decide +kernel
theorem dX7_kinds_5 : decode cX7_kinds 5 = .ok (.ifCond .eq 12, 3) := by decide +kernel
theorem dX7_kinds_8 : decode cX7_kinds 8 = .ok (.aload_n 0, 1) := by decide +kernel
theorem dX7_kinds_9 : decode cX7_kinds 9 = .ok (.iload_n 1, 1) := by decide +kernel
theorem dX7_kinds_10 : decode cX7_kinds 10 = .ok (.iconst 4, 1) := by decide +kernel
theorem dX7_kinds_11 : decode cX7_kinds 11 = .ok (.invokevirtual 232, 3) := by decide +kernel
theorem dX7_kinds_14 : decode cX7_kinds 14 = .ok (.goto 4, 3) := by decide +kernel
theorem dX7_kinds_17 : decode cX7_kinds 17 = .ok (.iconst (-1), 1) := by decide +kernel
theorem dX7_kinds_18 : decode cX7_kinds 18 = .ok (.ireturn, 1) := by decide +kernel
theorem dX7_books_0 : decode cX7_books 0 = .ok (.aload_n 0, 1) := by decide +kernel
theorem dX7_books_1 : decode cX7_books 1 = .ok (.iload_n 1, 1) := by decide +kernel
theorem dX7_books_2 : decode cX7_books 2 = .ok (.invokevirtual 169, 3) := by decide +kernel
theorem dX7_books_5 : decode cX7_books 5 = .ok (.ifCond .eq 18, 3) := by decide +kernel
theorem dX7_books_8 : decode cX7_books 8 = .ok (.aload_n 0, 1) := by decide +kernel
theorem dX7_books_9 : decode cX7_books 9 = .ok (.bipush 9, 2) := by decide +kernel
theorem dX7_books_11 : decode cX7_books 11 = .ok (.iload_n 1, 1) := by decide +kernel
theorem dX7_books_12 : decode cX7_books 12 = .ok (.iadd, 1) := by decide +kernel
theorem dX7_books_13 : decode cX7_books 13 = .ok (.aload_n 0, 1) := by decide +kernel
theorem dX7_books_14 : decode cX7_books 14 = .ok (.getfield 13, 3) := by decide +kernel
theorem dX7_books_17 : decode cX7_books 17 = .ok (.invokevirtual 232, 3) := by decide +kernel
theorem dX7_books_20 : decode cX7_books 20 = .ok (.goto 4, 3) := by decide +kernel
theorem dX7_books_23 : decode cX7_books 23 = .ok (.iconst (-1), 1) := by decide +kernel
theorem dX7_books_24 : decode cX7_books 24 = .ok (.ireturn, 1) := by decide +kernel
theorem dX7_worstAt_0 : decode cX7_worstAt 0 = .ok (.iconst 0, 1) := by decide +kernel
theorem dX7_worstAt_1 : decode cX7_worstAt 1 = .ok (.istore_n 3, 1) := by decide +kernel
theorem dX7_worstAt_2 : decode cX7_worstAt 2 = .ok (.iconst 0, 1) := by decide +kernel
theorem dX7_worstAt_3 : decode cX7_worstAt 3 = .ok (.istore 4, 2) := by decide +kernel
theorem dX7_worstAt_5 : decode cX7_worstAt 5 = .ok (.iload 4, 2) := by decide +kernel
theorem dX7_worstAt_7 : decode cX7_worstAt 7 = .ok (.aload_n 0, 1) := by decide +kernel
theorem dX7_worstAt_8 : decode cX7_worstAt 8 = .ok (.getfield 13, 3) := by decide +kernel
theorem dX7_worstAt_11 : decode cX7_worstAt 11 = .ok (.if_icmp .ge 102, 3) := by decide +kernel
theorem dX7_worstAt_14 : decode cX7_worstAt 14 = .ok (.iconst 0, 1) := by decide +kernel
theorem dX7_worstAt_15 : decode cX7_worstAt 15 = .ok (.istore 5, 2) := by decide +kernel
theorem dX7_worstAt_17 : decode cX7_worstAt 17 = .ok (.iconst 0, 1) := by decide +kernel
theorem dX7_worstAt_18 : decode cX7_worstAt 18 = .ok (.istore 6, 2) := by decide +kernel
theorem dX7_worstAt_20 : decode cX7_worstAt 20 = .ok (.iload 6, 2) := by decide +kernel
theorem dX7_worstAt_22 : decode cX7_worstAt 22 = .ok (.aload_n 0, 1) := by decide +kernel
theorem dX7_worstAt_23 : decode cX7_worstAt 23 = .ok (.getfield 13, 3) := by decide +kernel
theorem dX7_worstAt_26 : decode cX7_worstAt 26 = .ok (.if_icmp .ge 68, 3) := by decide +kernel
theorem dX7_worstAt_29 : decode cX7_worstAt 29 = .ok (.iload_n 1, 1) := by decide +kernel
theorem dX7_worstAt_30 : decode cX7_worstAt 30 = .ok (.iload 4, 2) := by decide +kernel
theorem dX7_worstAt_32 : decode cX7_worstAt 32 = .ok (.ishr, 1) := by decide +kernel
theorem dX7_worstAt_33 : decode cX7_worstAt 33 = .ok (.iconst 1, 1) := by decide +kernel
theorem dX7_worstAt_34 : decode cX7_worstAt 34 = .ok (.iand, 1) := by decide +kernel
theorem dX7_worstAt_35 : decode cX7_worstAt 35 = .ok (.iconst 1, 1) := by decide +kernel
theorem dX7_worstAt_36 : decode cX7_worstAt 36 = .ok (.if_icmp .ne 58, 3) := by decide +kernel
theorem dX7_worstAt_39 : decode cX7_worstAt 39 = .ok (.iload 5, 2) := by decide +kernel
theorem dX7_worstAt_41 : decode cX7_worstAt 41 = .ok (.iload_n 1, 1) := by decide +kernel
theorem dX7_worstAt_42 : decode cX7_worstAt 42 = .ok (.iload 6, 2) := by decide +kernel
theorem dX7_worstAt_44 : decode cX7_worstAt 44 = .ok (.ishr, 1) := by decide +kernel
theorem dX7_worstAt_45 : decode cX7_worstAt 45 = .ok (.iconst 1, 1) := by decide +kernel
theorem dX7_worstAt_46 : decode cX7_worstAt 46 = .ok (.iand, 1) := by decide +kernel
theorem dX7_worstAt_47 : decode cX7_worstAt 47 = .ok (.iconst 1, 1) := by decide +kernel
theorem dX7_worstAt_48 : decode cX7_worstAt 48 = .ok (.if_icmp .ne 36, 3) := by decide +kernel
theorem dX7_worstAt_51 : decode cX7_worstAt 51 = .ok (.aload_n 0, 1) := by decide +kernel
theorem dX7_worstAt_52 : decode cX7_worstAt 52 = .ok (.getfield 38, 3) := by decide +kernel
theorem dX7_worstAt_55 : decode cX7_worstAt 55 = .ok (.sipush 164, 3) := by decide +kernel
theorem dX7_worstAt_58 : decode cX7_worstAt 58 = .ok (.iload 4, 2) := by decide +kernel
theorem dX7_worstAt_60 : decode cX7_worstAt 60 = .ok (.imul, 1) := by decide +kernel
theorem dX7_worstAt_61 : decode cX7_worstAt 61 = .ok (.iload_n 2, 1) := by decide +kernel
theorem dX7_worstAt_62 : decode cX7_worstAt 62 = .ok (.iadd, 1) := by decide +kernel
theorem dX7_worstAt_63 : decode cX7_worstAt 63 = .ok (.iaload, 1) := by decide +kernel
theorem dX7_worstAt_64 : decode cX7_worstAt 64 = .ok (.aload_n 0, 1) := by decide +kernel
theorem dX7_worstAt_65 : decode cX7_worstAt 65 = .ok (.getfield 38, 3) := by decide +kernel
theorem dX7_worstAt_68 : decode cX7_worstAt 68 = .ok (.sipush 164, 3) := by decide +kernel
theorem dX7_worstAt_71 : decode cX7_worstAt 71 = .ok (.iload 6, 2) := by decide +kernel
theorem dX7_worstAt_73 : decode cX7_worstAt 73 = .ok (.imul, 1) := by decide +kernel
theorem dX7_worstAt_74 : decode cX7_worstAt 74 = .ok (.iload_n 2, 1) := by decide +kernel
theorem dX7_worstAt_75 : decode cX7_worstAt 75 = .ok (.iadd, 1) := by decide +kernel
theorem dX7_worstAt_76 : decode cX7_worstAt 76 = .ok (.iaload, 1) := by decide +kernel
theorem dX7_worstAt_77 : decode cX7_worstAt 77 = .ok (.if_icmp .ne 7, 3) := by decide +kernel
theorem dX7_worstAt_80 : decode cX7_worstAt 80 = .ok (.iconst 1, 1) := by decide +kernel
theorem dX7_worstAt_81 : decode cX7_worstAt 81 = .ok (.goto 4, 3) := by decide +kernel
theorem dX7_worstAt_84 : decode cX7_worstAt 84 = .ok (.iconst 0, 1) := by decide +kernel
theorem dX7_worstAt_85 : decode cX7_worstAt 85 = .ok (.iadd, 1) := by decide +kernel
theorem dX7_worstAt_86 : decode cX7_worstAt 86 = .ok (.istore 5, 2) := by decide +kernel
theorem dX7_worstAt_88 : decode cX7_worstAt 88 = .ok (.iinc 6 1, 3) := by decide +kernel
theorem dX7_worstAt_91 : decode cX7_worstAt 91 = .ok (.goto (-71), 3) := by decide +kernel
theorem dX7_worstAt_94 : decode cX7_worstAt 94 = .ok (.iload 5, 2) := by decide +kernel
theorem dX7_worstAt_96 : decode cX7_worstAt 96 = .ok (.iload_n 3, 1) := by decide +kernel
theorem dX7_worstAt_97 : decode cX7_worstAt 97 = .ok (.if_icmp .le 8, 3) := by decide +kernel
theorem dX7_worstAt_100 : decode cX7_worstAt 100 = .ok (.iload 5, 2) := by decide +kernel
theorem dX7_worstAt_102 : decode cX7_worstAt 102 = .ok (.goto 4, 3) := by decide +kernel
theorem dX7_worstAt_105 : decode cX7_worstAt 105 = .ok (.iload_n 3, 1) := by decide +kernel
theorem dX7_worstAt_106 : decode cX7_worstAt 106 = .ok (.istore_n 3, 1) := by decide +kernel
theorem dX7_worstAt_107 : decode cX7_worstAt 107 = .ok (.iinc 4 1, 3) := by decide +kernel
theorem dX7_worstAt_110 : decode cX7_worstAt 110 = .ok (.goto (-105), 3) := by decide +kernel
theorem dX7_worstAt_113 : decode cX7_worstAt 113 = .ok (.iload_n 3, 1) := by decide +kernel
theorem dX7_worstAt_114 : decode cX7_worstAt 114 = .ok (.ireturn, 1) := by decide +kernel
theorem dX7_ask_0 : decode cX7_ask 0 = .ok (.aload_n 0, 1) := by decide +kernel
theorem dX7_ask_1 : decode cX7_ask 1 = .ok (.iload_n 1, 1) := by decide +kernel
theorem dX7_ask_2 : decode cX7_ask 2 = .ok (.invokevirtual 169, 3) := by decide +kernel
theorem dX7_ask_5 : decode cX7_ask 5 = .ok (.ifCond .eq 13, 3) := by decide +kernel
theorem dX7_ask_8 : decode cX7_ask 8 = .ok (.iload_n 2, 1) := by decide +kernel
theorem dX7_ask_9 : decode cX7_ask 9 = .ok (.i2l, 1) := by decide +kernel
theorem dX7_ask_10 : decode cX7_ask 10 = .ok (.lconst 0, 1) := by decide +kernel
theorem dX7_ask_11 : decode cX7_ask 11 = .ok (.lconst 1, 1) := by decide +kernel
theorem dX7_ask_12 : decode cX7_ask 12 = .ok (.invokestatic 56, 3) := by decide +kernel
theorem dX7_ask_15 : decode cX7_ask 15 = .ok (.ifCond .ne 5, 3) := by decide +kernel
theorem dX7_ask_18 : decode cX7_ask 18 = .ok (.iconst (-1), 1) := by decide +kernel
theorem dX7_ask_19 : decode cX7_ask 19 = .ok (.ireturn, 1) := by decide +kernel
theorem dX7_ask_20 : decode cX7_ask 20 = .ok (.aload_n 0, 1) := by decide +kernel
theorem dX7_ask_21 : decode cX7_ask 21 = .ok (.bipush 9, 2) := by decide +kernel
theorem dX7_ask_23 : decode cX7_ask 23 = .ok (.iload_n 1, 1) := by decide +kernel
theorem dX7_ask_24 : decode cX7_ask 24 = .ok (.iadd, 1) := by decide +kernel
theorem dX7_ask_25 : decode cX7_ask 25 = .ok (.aload_n 0, 1) := by decide +kernel
theorem dX7_ask_26 : decode cX7_ask 26 = .ok (.getfield 13, 3) := by decide +kernel
theorem dX7_ask_29 : decode cX7_ask 29 = .ok (.invokevirtual 232, 3) := by decide +kernel
theorem dX7_ask_32 : decode cX7_ask 32 = .ok (.istore_n 3, 1) := by decide +kernel
theorem dX7_ask_33 : decode cX7_ask 33 = .ok (.iconst 0, 1) := by decide +kernel
theorem dX7_ask_34 : decode cX7_ask 34 = .ok (.istore 4, 2) := by decide +kernel
theorem dX7_ask_36 : decode cX7_ask 36 = .ok (.iconst 0, 1) := by decide +kernel
theorem dX7_ask_37 : decode cX7_ask 37 = .ok (.istore 5, 2) := by decide +kernel
theorem dX7_ask_39 : decode cX7_ask 39 = .ok (.iload 5, 2) := by decide +kernel
theorem dX7_ask_41 : decode cX7_ask 41 = .ok (.aload_n 0, 1) := by decide +kernel
theorem dX7_ask_42 : decode cX7_ask 42 = .ok (.getfield 13, 3) := by decide +kernel
theorem dX7_ask_45 : decode cX7_ask 45 = .ok (.if_icmp .ge 20, 3) := by decide +kernel
theorem dX7_ask_48 : decode cX7_ask 48 = .ok (.iload 4, 2) := by decide +kernel
theorem dX7_ask_50 : decode cX7_ask 50 = .ok (.iload_n 3, 1) := by decide +kernel
theorem dX7_ask_51 : decode cX7_ask 51 = .ok (.iload 5, 2) := by decide +kernel
theorem dX7_ask_53 : decode cX7_ask 53 = .ok (.ishr, 1) := by decide +kernel
theorem dX7_ask_54 : decode cX7_ask 54 = .ok (.iconst 1, 1) := by decide +kernel
theorem dX7_ask_55 : decode cX7_ask 55 = .ok (.iand, 1) := by decide +kernel
theorem dX7_ask_56 : decode cX7_ask 56 = .ok (.iadd, 1) := by decide +kernel
theorem dX7_ask_57 : decode cX7_ask 57 = .ok (.istore 4, 2) := by decide +kernel
theorem dX7_ask_59 : decode cX7_ask 59 = .ok (.iinc 5 1, 3) := by decide +kernel
theorem dX7_ask_62 : decode cX7_ask 62 = .ok (.goto (-23), 3) := by decide +kernel
theorem dX7_ask_65 : decode cX7_ask 65 = .ok (.bipush (-4), 2) := by decide +kernel
theorem dX7_ask_67 : decode cX7_ask 67 = .ok (.istore 5, 2) := by decide +kernel
theorem dX7_ask_69 : decode cX7_ask 69 = .ok (.iconst 0, 1) := by decide +kernel
theorem dX7_ask_70 : decode cX7_ask 70 = .ok (.istore 6, 2) := by decide +kernel
theorem dX7_ask_72 : decode cX7_ask 72 = .ok (.iload 6, 2) := by decide +kernel
theorem dX7_ask_74 : decode cX7_ask 74 = .ok (.bipush 40, 2) := by decide +kernel
theorem dX7_ask_76 : decode cX7_ask 76 = .ok (.if_icmp .gt 82, 3) := by decide +kernel
theorem dX7_ask_79 : decode cX7_ask 79 = .ok (.iconst 0, 1) := by decide +kernel
theorem dX7_ask_80 : decode cX7_ask 80 = .ok (.istore 7, 2) := by decide +kernel
theorem dX7_ask_82 : decode cX7_ask 82 = .ok (.iload 7, 2) := by decide +kernel
theorem dX7_ask_84 : decode cX7_ask 84 = .ok (.aload_n 0, 1) := by decide +kernel
theorem dX7_ask_85 : decode cX7_ask 85 = .ok (.getfield 7, 3) := by decide +kernel
theorem dX7_ask_88 : decode cX7_ask 88 = .ok (.bipush 8, 2) := by decide +kernel
theorem dX7_ask_90 : decode cX7_ask 90 = .ok (.iaload, 1) := by decide +kernel
theorem dX7_ask_91 : decode cX7_ask 91 = .ok (.if_icmp .ge 61, 3) := by decide +kernel
theorem dX7_ask_94 : decode cX7_ask 94 = .ok (.aload_n 0, 1) := by decide +kernel
theorem dX7_ask_95 : decode cX7_ask 95 = .ok (.iload_n 3, 1) := by decide +kernel
theorem dX7_ask_96 : decode cX7_ask 96 = .ok (.iconst 4, 1) := by decide +kernel
theorem dX7_ask_97 : decode cX7_ask 97 = .ok (.iload 6, 2) := by decide +kernel
theorem dX7_ask_99 : decode cX7_ask 99 = .ok (.imul, 1) := by decide +kernel
theorem dX7_ask_100 : decode cX7_ask 100 = .ok (.iload 7, 2) := by decide +kernel
theorem dX7_ask_102 : decode cX7_ask 102 = .ok (.iadd, 1) := by decide +kernel
theorem dX7_ask_103 : decode cX7_ask 103 = .ok (.invokevirtual 235, 3) := by decide +kernel
theorem dX7_ask_106 : decode cX7_ask 106 = .ok (.istore 8, 2) := by decide +kernel
theorem dX7_ask_108 : decode cX7_ask 108 = .ok (.iload 8, 2) := by decide +kernel
theorem dX7_ask_110 : decode cX7_ask 110 = .ok (.iload 4, 2) := by decide +kernel
theorem dX7_ask_112 : decode cX7_ask 112 = .ok (.if_icmp .ge 14, 3) := by decide +kernel
theorem dX7_ask_115 : decode cX7_ask 115 = .ok (.bipush 10, 2) := by decide +kernel
theorem dX7_ask_117 : decode cX7_ask 117 = .ok (.iload 6, 2) := by decide +kernel
theorem dX7_ask_119 : decode cX7_ask 119 = .ok (.imul, 1) := by decide +kernel
theorem dX7_ask_120 : decode cX7_ask 120 = .ok (.iload 7, 2) := by decide +kernel
theorem dX7_ask_122 : decode cX7_ask 122 = .ok (.iadd, 1) := by decide +kernel
theorem dX7_ask_123 : decode cX7_ask 123 = .ok (.goto 5, 3) := by decide +kernel
theorem dX7_ask_126 : decode cX7_ask 126 = .ok (.iload 5, 2) := by decide +kernel
theorem dX7_ask_128 : decode cX7_ask 128 = .ok (.istore 5, 2) := by decide +kernel
theorem dX7_ask_130 : decode cX7_ask 130 = .ok (.iload 8, 2) := by decide +kernel
theorem dX7_ask_132 : decode cX7_ask 132 = .ok (.iload 4, 2) := by decide +kernel
theorem dX7_ask_134 : decode cX7_ask 134 = .ok (.if_icmp .ge 8, 3) := by decide +kernel
theorem dX7_ask_137 : decode cX7_ask 137 = .ok (.iload 8, 2) := by decide +kernel
theorem dX7_ask_139 : decode cX7_ask 139 = .ok (.goto 5, 3) := by decide +kernel
theorem dX7_ask_142 : decode cX7_ask 142 = .ok (.iload 4, 2) := by decide +kernel
theorem dX7_ask_144 : decode cX7_ask 144 = .ok (.istore 4, 2) := by decide +kernel
theorem dX7_ask_146 : decode cX7_ask 146 = .ok (.iinc 7 1, 3) := by decide +kernel
theorem dX7_ask_149 : decode cX7_ask 149 = .ok (.goto (-67), 3) := by decide +kernel
theorem dX7_ask_152 : decode cX7_ask 152 = .ok (.iinc 6 1, 3) := by decide +kernel
theorem dX7_ask_155 : decode cX7_ask 155 = .ok (.goto (-83), 3) := by decide +kernel
theorem dX7_ask_158 : decode cX7_ask 158 = .ok (.iload 5, 2) := by decide +kernel
theorem dX7_ask_160 : decode cX7_ask 160 = .ok (.bipush (-4), 2) := by decide +kernel
theorem dX7_ask_162 : decode cX7_ask 162 = .ok (.if_icmp .eq 7, 3) := by decide +kernel
theorem dX7_ask_165 : decode cX7_ask 165 = .ok (.iload_n 2, 1) := by decide +kernel
theorem dX7_ask_166 : decode cX7_ask 166 = .ok (.ifCond .ne 8, 3) := by decide +kernel
theorem dX7_ask_169 : decode cX7_ask 169 = .ok (.iload 5, 2) := by decide +kernel
theorem dX7_ask_171 : decode cX7_ask 171 = .ok (.goto 5, 3) := by decide +kernel
theorem dX7_ask_174 : decode cX7_ask 174 = .ok (.iload 4, 2) := by decide +kernel
theorem dX7_ask_176 : decode cX7_ask 176 = .ok (.ireturn, 1) := by decide +kernel
theorem dX7_drift_0 : decode cX7_drift 0 = .ok (.iload_n 2, 1) := by decide +kernel
theorem dX7_drift_1 : decode cX7_drift 1 = .ok (.i2l, 1) := by decide +kernel
theorem dX7_drift_2 : decode cX7_drift 2 = .ok (.lconst 1, 1) := by decide +kernel
theorem dX7_drift_3 : decode cX7_drift 3 = .ok (.ldc2_w 197, 3) := by decide +kernel
theorem dX7_drift_6 : decode cX7_drift 6 = .ok (.invokestatic 56, 3) := by decide +kernel
theorem dX7_drift_9 : decode cX7_drift 9 = .ok (.ifCond .eq 13, 3) := by decide +kernel
theorem dX7_drift_12 : decode cX7_drift 12 = .ok (.iload_n 3, 1) := by decide +kernel
theorem dX7_drift_13 : decode cX7_drift 13 = .ok (.i2l, 1) := by decide +kernel
theorem dX7_drift_14 : decode cX7_drift 14 = .ok (.lconst 0, 1) := by decide +kernel
theorem dX7_drift_15 : decode cX7_drift 15 = .ok (.lconst 1, 1) := by decide +kernel
theorem dX7_drift_16 : decode cX7_drift 16 = .ok (.invokestatic 56, 3) := by decide +kernel
theorem dX7_drift_19 : decode cX7_drift 19 = .ok (.ifCond .ne 5, 3) := by decide +kernel
theorem dX7_drift_22 : decode cX7_drift 22 = .ok (.iconst (-1), 1) := by decide +kernel
theorem dX7_drift_23 : decode cX7_drift 23 = .ok (.ireturn, 1) := by decide +kernel
theorem dX7_drift_24 : decode cX7_drift 24 = .ok (.aload_n 0, 1) := by decide +kernel
theorem dX7_drift_25 : decode cX7_drift 25 = .ok (.getfield 7, 3) := by decide +kernel
theorem dX7_drift_28 : decode cX7_drift 28 = .ok (.bipush 8, 2) := by decide +kernel
theorem dX7_drift_30 : decode cX7_drift 30 = .ok (.iaload, 1) := by decide +kernel
theorem dX7_drift_31 : decode cX7_drift 31 = .ok (.ifCond .ne 6, 3) := by decide +kernel
theorem dX7_drift_34 : decode cX7_drift 34 = .ok (.bipush (-2), 2) := by decide +kernel
theorem dX7_drift_36 : decode cX7_drift 36 = .ok (.ireturn, 1) := by decide +kernel
theorem dX7_drift_37 : decode cX7_drift 37 = .ok (.aload_n 0, 1) := by decide +kernel
theorem dX7_drift_38 : decode cX7_drift 38 = .ok (.iconst 0, 1) := by decide +kernel
theorem dX7_drift_39 : decode cX7_drift 39 = .ok (.sipush 300, 3) := by decide +kernel
theorem dX7_drift_42 : decode cX7_drift 42 = .ok (.invokevirtual 193, 3) := by decide +kernel
theorem dX7_drift_45 : decode cX7_drift 45 = .ok (.aload_n 0, 1) := by decide +kernel
theorem dX7_drift_46 : decode cX7_drift 46 = .ok (.invokevirtual 183, 3) := by decide +kernel
theorem dX7_drift_49 : decode cX7_drift 49 = .ok (.iload_n 1, 1) := by decide +kernel
theorem dX7_drift_50 : decode cX7_drift 50 = .ok (.istore 4, 2) := by decide +kernel
theorem dX7_drift_52 : decode cX7_drift 52 = .ok (.iconst 0, 1) := by decide +kernel
theorem dX7_drift_53 : decode cX7_drift 53 = .ok (.istore 5, 2) := by decide +kernel
theorem dX7_drift_55 : decode cX7_drift 55 = .ok (.iload 5, 2) := by decide +kernel
theorem dX7_drift_57 : decode cX7_drift 57 = .ok (.iload_n 2, 1) := by decide +kernel
theorem dX7_drift_58 : decode cX7_drift 58 = .ok (.if_icmp .ge 42, 3) := by decide +kernel
theorem dX7_drift_61 : decode cX7_drift 61 = .ok (.iload 4, 2) := by decide +kernel
theorem dX7_drift_63 : decode cX7_drift 63 = .ok (.ldc 238, 2) := by decide +kernel
theorem dX7_drift_65 : decode cX7_drift 65 = .ok (.imul, 1) := by decide +kernel
theorem dX7_drift_66 : decode cX7_drift 66 = .ok (.sipush 12345, 3) := by decide +kernel
theorem dX7_drift_69 : decode cX7_drift 69 = .ok (.iadd, 1) := by decide +kernel
theorem dX7_drift_70 : decode cX7_drift 70 = .ok (.istore 4, 2) := by decide +kernel
theorem dX7_drift_72 : decode cX7_drift 72 = .ok (.aload_n 0, 1) := by decide +kernel
theorem dX7_drift_73 : decode cX7_drift 73 = .ok (.sipush 300, 3) := by decide +kernel
theorem dX7_drift_76 : decode cX7_drift 76 = .ok (.iload 4, 2) := by decide +kernel
theorem dX7_drift_78 : decode cX7_drift 78 = .ok (.bipush 16, 2) := by decide +kernel
theorem dX7_drift_80 : decode cX7_drift 80 = .ok (.ishr, 1) := by decide +kernel
theorem dX7_drift_81 : decode cX7_drift 81 = .ok (.sipush 32767, 3) := by decide +kernel
theorem dX7_drift_84 : decode cX7_drift 84 = .ok (.iand, 1) := by decide +kernel
theorem dX7_drift_85 : decode cX7_drift 85 = .ok (.aload_n 0, 1) := by decide +kernel
theorem dX7_drift_86 : decode cX7_drift 86 = .ok (.getfield 13, 3) := by decide +kernel
theorem dX7_drift_89 : decode cX7_drift 89 = .ok (.irem, 1) := by decide +kernel
theorem dX7_drift_90 : decode cX7_drift 90 = .ok (.invokevirtual 159, 3) := by decide +kernel
theorem dX7_drift_93 : decode cX7_drift 93 = .ok (.pop, 1) := by decide +kernel
theorem dX7_drift_94 : decode cX7_drift 94 = .ok (.iinc 5 1, 3) := by decide +kernel
theorem dX7_drift_97 : decode cX7_drift 97 = .ok (.goto (-42), 3) := by decide +kernel
theorem dX7_drift_100 : decode cX7_drift 100 = .ok (.iload_n 3, 1) := by decide +kernel
theorem dX7_drift_101 : decode cX7_drift 101 = .ok (.ifCond .ne 10, 3) := by decide +kernel
theorem dX7_drift_104 : decode cX7_drift 104 = .ok (.aload_n 0, 1) := by decide +kernel
theorem dX7_drift_105 : decode cX7_drift 105 = .ok (.invokevirtual 190, 3) := by decide +kernel
theorem dX7_drift_108 : decode cX7_drift 108 = .ok (.goto 7, 3) := by decide +kernel
theorem dX7_drift_111 : decode cX7_drift 111 = .ok (.aload_n 0, 1) := by decide +kernel
theorem dX7_drift_112 : decode cX7_drift 112 = .ok (.invokevirtual 202, 3) := by decide +kernel
theorem dX7_drift_115 : decode cX7_drift 115 = .ok (.ireturn, 1) := by decide +kernel
theorem dX7_keep_0 : decode cX7_keep 0 = .ok (.iload_n 1, 1) := by decide +kernel
theorem dX7_keep_1 : decode cX7_keep 1 = .ok (.i2l, 1) := by decide +kernel
theorem dX7_keep_2 : decode cX7_keep 2 = .ok (.lconst 0, 1) := by decide +kernel
theorem dX7_keep_3 : decode cX7_keep 3 = .ok (.lconst 1, 1) := by decide +kernel
theorem dX7_keep_4 : decode cX7_keep 4 = .ok (.invokestatic 56, 3) := by decide +kernel
theorem dX7_keep_7 : decode cX7_keep 7 = .ok (.ifCond .ne 5, 3) := by decide +kernel
theorem dX7_keep_10 : decode cX7_keep 10 = .ok (.iconst (-1), 1) := by decide +kernel
theorem dX7_keep_11 : decode cX7_keep 11 = .ok (.ireturn, 1) := by decide +kernel
theorem dX7_keep_12 : decode cX7_keep 12 = .ok (.aload_n 0, 1) := by decide +kernel
theorem dX7_keep_13 : decode cX7_keep 13 = .ok (.iconst 0, 1) := by decide +kernel
theorem dX7_keep_14 : decode cX7_keep 14 = .ok (.bipush 75, 2) := by decide +kernel
theorem dX7_keep_16 : decode cX7_keep 16 = .ok (.iload_n 1, 1) := by decide +kernel
theorem dX7_keep_17 : decode cX7_keep 17 = .ok (.iconst 1, 1) := by decide +kernel
theorem dX7_keep_18 : decode cX7_keep 18 = .ok (.iadd, 1) := by decide +kernel
theorem dX7_keep_19 : decode cX7_keep 19 = .ok (.imul, 1) := by decide +kernel
theorem dX7_keep_20 : decode cX7_keep 20 = .ok (.invokevirtual 193, 3) := by decide +kernel
theorem dX7_keep_23 : decode cX7_keep 23 = .ok (.aload_n 0, 1) := by decide +kernel
theorem dX7_keep_24 : decode cX7_keep 24 = .ok (.getfield 41, 3) := by decide +kernel
theorem dX7_keep_27 : decode cX7_keep 27 = .ok (.iload_n 1, 1) := by decide +kernel
theorem dX7_keep_28 : decode cX7_keep 28 = .ok (.baload, 1) := by decide +kernel
theorem dX7_keep_29 : decode cX7_keep 29 = .ok (.ifCond .eq 7, 3) := by decide +kernel
theorem dX7_keep_32 : decode cX7_keep 32 = .ok (.iconst 1, 1) := by decide +kernel
theorem dX7_keep_33 : decode cX7_keep 33 = .ok (.goto 4, 3) := by decide +kernel
theorem dX7_keep_36 : decode cX7_keep 36 = .ok (.iconst 0, 1) := by decide +kernel
theorem dX7_keep_37 : decode cX7_keep 37 = .ok (.istore_n 2, 1) := by decide +kernel
theorem dX7_keep_38 : decode cX7_keep 38 = .ok (.aload_n 0, 1) := by decide +kernel
theorem dX7_keep_39 : decode cX7_keep 39 = .ok (.getfield 41, 3) := by decide +kernel
theorem dX7_keep_42 : decode cX7_keep 42 = .ok (.iload_n 1, 1) := by decide +kernel
theorem dX7_keep_43 : decode cX7_keep 43 = .ok (.iconst 1, 1) := by decide +kernel
theorem dX7_keep_44 : decode cX7_keep 44 = .ok (.bastore, 1) := by decide +kernel
theorem dX7_keep_45 : decode cX7_keep 45 = .ok (.iload_n 2, 1) := by decide +kernel
theorem dX7_keep_46 : decode cX7_keep 46 = .ok (.ireturn, 1) := by decide +kernel
theorem dX7_back_0 : decode cX7_back 0 = .ok (.iload_n 1, 1) := by decide +kernel
theorem dX7_back_1 : decode cX7_back 1 = .ok (.i2l, 1) := by decide +kernel
theorem dX7_back_2 : decode cX7_back 2 = .ok (.lconst 0, 1) := by decide +kernel
theorem dX7_back_3 : decode cX7_back 3 = .ok (.lconst 1, 1) := by decide +kernel
theorem dX7_back_4 : decode cX7_back 4 = .ok (.invokestatic 56, 3) := by decide +kernel
theorem dX7_back_7 : decode cX7_back 7 = .ok (.ifCond .ne 5, 3) := by decide +kernel
theorem dX7_back_10 : decode cX7_back 10 = .ok (.iconst (-1), 1) := by decide +kernel
theorem dX7_back_11 : decode cX7_back 11 = .ok (.ireturn, 1) := by decide +kernel
theorem dX7_back_12 : decode cX7_back 12 = .ok (.aload_n 0, 1) := by decide +kernel
theorem dX7_back_13 : decode cX7_back 13 = .ok (.getfield 41, 3) := by decide +kernel
theorem dX7_back_16 : decode cX7_back 16 = .ok (.iload_n 1, 1) := by decide +kernel
theorem dX7_back_17 : decode cX7_back 17 = .ok (.baload, 1) := by decide +kernel
theorem dX7_back_18 : decode cX7_back 18 = .ok (.ifCond .ne 6, 3) := by decide +kernel
theorem dX7_back_21 : decode cX7_back 21 = .ok (.bipush (-2), 2) := by decide +kernel
theorem dX7_back_23 : decode cX7_back 23 = .ok (.ireturn, 1) := by decide +kernel
theorem dX7_back_24 : decode cX7_back 24 = .ok (.aload_n 0, 1) := by decide +kernel
theorem dX7_back_25 : decode cX7_back 25 = .ok (.bipush 75, 2) := by decide +kernel
theorem dX7_back_27 : decode cX7_back 27 = .ok (.iload_n 1, 1) := by decide +kernel
theorem dX7_back_28 : decode cX7_back 28 = .ok (.iconst 1, 1) := by decide +kernel
theorem dX7_back_29 : decode cX7_back 29 = .ok (.iadd, 1) := by decide +kernel
theorem dX7_back_30 : decode cX7_back 30 = .ok (.imul, 1) := by decide +kernel
theorem dX7_back_31 : decode cX7_back 31 = .ok (.iconst 0, 1) := by decide +kernel
theorem dX7_back_32 : decode cX7_back 32 = .ok (.invokevirtual 193, 3) := by decide +kernel
theorem dX7_back_35 : decode cX7_back 35 = .ok (.aload_n 0, 1) := by decide +kernel
theorem dX7_back_36 : decode cX7_back 36 = .ok (.getfield 7, 3) := by decide +kernel
theorem dX7_back_39 : decode cX7_back 39 = .ok (.bipush 26, 2) := by decide +kernel
theorem dX7_back_41 : decode cX7_back 41 = .ok (.iaload, 1) := by decide +kernel
theorem dX7_back_42 : decode cX7_back 42 = .ok (.ireturn, 1) := by decide +kernel
theorem dX7_sheet_0 : decode cX7_sheet 0 = .ok (.iload_n 1, 1) := by decide +kernel
theorem dX7_sheet_1 : decode cX7_sheet 1 = .ok (.i2l, 1) := by decide +kernel
theorem dX7_sheet_2 : decode cX7_sheet 2 = .ok (.lconst 0, 1) := by decide +kernel
theorem dX7_sheet_3 : decode cX7_sheet 3 = .ok (.ldc2_w 172, 3) := by decide +kernel
theorem dX7_sheet_6 : decode cX7_sheet 6 = .ok (.invokestatic 56, 3) := by decide +kernel
theorem dX7_sheet_9 : decode cX7_sheet 9 = .ok (.ifCond .eq 21, 3) := by decide +kernel
theorem dX7_sheet_12 : decode cX7_sheet 12 = .ok (.iload_n 2, 1) := by decide +kernel
theorem dX7_sheet_13 : decode cX7_sheet 13 = .ok (.i2l, 1) := by decide +kernel
theorem dX7_sheet_14 : decode cX7_sheet 14 = .ok (.lconst 0, 1) := by decide +kernel
theorem dX7_sheet_15 : decode cX7_sheet 15 = .ok (.ldc2_w 239, 3) := by decide +kernel
theorem dX7_sheet_18 : decode cX7_sheet 18 = .ok (.invokestatic 56, 3) := by decide +kernel
theorem dX7_sheet_21 : decode cX7_sheet 21 = .ok (.ifCond .eq 9, 3) := by decide +kernel
theorem dX7_sheet_24 : decode cX7_sheet 24 = .ok (.iload_n 3, 1) := by decide +kernel
theorem dX7_sheet_25 : decode cX7_sheet 25 = .ok (.bipush 40, 2) := by decide +kernel
theorem dX7_sheet_27 : decode cX7_sheet 27 = .ok (.if_icmp .le 5, 3) := by decide +kernel
theorem dX7_sheet_30 : decode cX7_sheet 30 = .ok (.iconst (-1), 1) := by decide +kernel
theorem dX7_sheet_31 : decode cX7_sheet 31 = .ok (.ireturn, 1) := by decide +kernel
theorem dX7_sheet_32 : decode cX7_sheet 32 = .ok (.iload_n 3, 1) := by decide +kernel
theorem dX7_sheet_33 : decode cX7_sheet 33 = .ok (.ifCond .ge 6, 3) := by decide +kernel
theorem dX7_sheet_36 : decode cX7_sheet 36 = .ok (.bipush (-14), 2) := by decide +kernel
theorem dX7_sheet_38 : decode cX7_sheet 38 = .ok (.ireturn, 1) := by decide +kernel
theorem dX7_sheet_39 : decode cX7_sheet 39 = .ok (.aload_n 0, 1) := by decide +kernel
theorem dX7_sheet_40 : decode cX7_sheet 40 = .ok (.getfield 45, 3) := by decide +kernel
theorem dX7_sheet_43 : decode cX7_sheet 43 = .ok (.iload_n 1, 1) := by decide +kernel
theorem dX7_sheet_44 : decode cX7_sheet 44 = .ok (.iload_n 2, 1) := by decide +kernel
theorem dX7_sheet_45 : decode cX7_sheet 45 = .ok (.iastore, 1) := by decide +kernel
theorem dX7_sheet_46 : decode cX7_sheet 46 = .ok (.aload_n 0, 1) := by decide +kernel
theorem dX7_sheet_47 : decode cX7_sheet 47 = .ok (.getfield 48, 3) := by decide +kernel
theorem dX7_sheet_50 : decode cX7_sheet 50 = .ok (.iload_n 1, 1) := by decide +kernel
theorem dX7_sheet_51 : decode cX7_sheet 51 = .ok (.iload_n 3, 1) := by decide +kernel
theorem dX7_sheet_52 : decode cX7_sheet 52 = .ok (.iastore, 1) := by decide +kernel
theorem dX7_sheet_53 : decode cX7_sheet 53 = .ok (.iconst 0, 1) := by decide +kernel
theorem dX7_sheet_54 : decode cX7_sheet 54 = .ok (.istore 4, 2) := by decide +kernel
theorem dX7_sheet_56 : decode cX7_sheet 56 = .ok (.iload 4, 2) := by decide +kernel
theorem dX7_sheet_58 : decode cX7_sheet 58 = .ok (.bipush 40, 2) := by decide +kernel
theorem dX7_sheet_60 : decode cX7_sheet 60 = .ok (.if_icmp .ge 22, 3) := by decide +kernel
theorem dX7_sheet_63 : decode cX7_sheet 63 = .ok (.aload_n 0, 1) := by decide +kernel
theorem dX7_sheet_64 : decode cX7_sheet 64 = .ok (.getfield 51, 3) := by decide +kernel
theorem dX7_sheet_67 : decode cX7_sheet 67 = .ok (.bipush 40, 2) := by decide +kernel
theorem dX7_sheet_69 : decode cX7_sheet 69 = .ok (.iload_n 1, 1) := by decide +kernel
theorem dX7_sheet_70 : decode cX7_sheet 70 = .ok (.imul, 1) := by decide +kernel
theorem dX7_sheet_71 : decode cX7_sheet 71 = .ok (.iload 4, 2) := by decide +kernel
theorem dX7_sheet_73 : decode cX7_sheet 73 = .ok (.iadd, 1) := by decide +kernel
theorem dX7_sheet_74 : decode cX7_sheet 74 = .ok (.iconst 0, 1) := by decide +kernel
theorem dX7_sheet_75 : decode cX7_sheet 75 = .ok (.iastore, 1) := by decide +kernel
theorem dX7_sheet_76 : decode cX7_sheet 76 = .ok (.iinc 4 1, 3) := by decide +kernel
theorem dX7_sheet_79 : decode cX7_sheet 79 = .ok (.goto (-23), 3) := by decide +kernel
theorem dX7_sheet_82 : decode cX7_sheet 82 = .ok (.iconst 1, 1) := by decide +kernel
theorem dX7_sheet_83 : decode cX7_sheet 83 = .ok (.ireturn, 1) := by decide +kernel
theorem dX7_lay_0 : decode cX7_lay 0 = .ok (.iload_n 1, 1) := by decide +kernel
theorem dX7_lay_1 : decode cX7_lay 1 = .ok (.i2l, 1) := by decide +kernel
theorem dX7_lay_2 : decode cX7_lay 2 = .ok (.lconst 0, 1) := by decide +kernel
theorem dX7_lay_3 : decode cX7_lay 3 = .ok (.ldc2_w 172, 3) := by decide +kernel
theorem dX7_lay_6 : decode cX7_lay 6 = .ok (.invokestatic 56, 3) := by decide +kernel
theorem dX7_lay_9 : decode cX7_lay 9 = .ok (.ifCond .ne 5, 3) := by decide +kernel
theorem dX7_lay_12 : decode cX7_lay 12 = .ok (.iconst (-1), 1) := by decide +kernel
theorem dX7_lay_13 : decode cX7_lay 13 = .ok (.ireturn, 1) := by decide +kernel
theorem dX7_lay_14 : decode cX7_lay 14 = .ok (.aload_n 0, 1) := by decide +kernel
theorem dX7_lay_15 : decode cX7_lay 15 = .ok (.getfield 45, 3) := by decide +kernel
theorem dX7_lay_18 : decode cX7_lay 18 = .ok (.iload_n 1, 1) := by decide +kernel
theorem dX7_lay_19 : decode cX7_lay 19 = .ok (.iaload, 1) := by decide +kernel
theorem dX7_lay_20 : decode cX7_lay 20 = .ok (.bipush (-4), 2) := by decide +kernel
theorem dX7_lay_22 : decode cX7_lay 22 = .ok (.if_icmp .ne 6, 3) := by decide +kernel
theorem dX7_lay_25 : decode cX7_lay 25 = .ok (.bipush (-11), 2) := by decide +kernel
theorem dX7_lay_27 : decode cX7_lay 27 = .ok (.ireturn, 1) := by decide +kernel
theorem dX7_lay_28 : decode cX7_lay 28 = .ok (.iload_n 2, 1) := by decide +kernel
theorem dX7_lay_29 : decode cX7_lay 29 = .ok (.i2l, 1) := by decide +kernel
theorem dX7_lay_30 : decode cX7_lay 30 = .ok (.lconst 0, 1) := by decide +kernel
theorem dX7_lay_31 : decode cX7_lay 31 = .ok (.aload_n 0, 1) := by decide +kernel
theorem dX7_lay_32 : decode cX7_lay 32 = .ok (.getfield 48, 3) := by decide +kernel
theorem dX7_lay_35 : decode cX7_lay 35 = .ok (.iload_n 1, 1) := by decide +kernel
theorem dX7_lay_36 : decode cX7_lay 36 = .ok (.iaload, 1) := by decide +kernel
theorem dX7_lay_37 : decode cX7_lay 37 = .ok (.iconst 1, 1) := by decide +kernel
theorem dX7_lay_38 : decode cX7_lay 38 = .ok (.isub, 1) := by decide +kernel
theorem dX7_lay_39 : decode cX7_lay 39 = .ok (.i2l, 1) := by decide +kernel
theorem dX7_lay_40 : decode cX7_lay 40 = .ok (.invokestatic 56, 3) := by decide +kernel
theorem dX7_lay_43 : decode cX7_lay 43 = .ok (.ifCond .ne 6, 3) := by decide +kernel
theorem dX7_lay_46 : decode cX7_lay 46 = .ok (.bipush (-12), 2) := by decide +kernel
theorem dX7_lay_48 : decode cX7_lay 48 = .ok (.ireturn, 1) := by decide +kernel
theorem dX7_lay_49 : decode cX7_lay 49 = .ok (.aload_n 0, 1) := by decide +kernel
theorem dX7_lay_50 : decode cX7_lay 50 = .ok (.getfield 51, 3) := by decide +kernel
theorem dX7_lay_53 : decode cX7_lay 53 = .ok (.bipush 40, 2) := by decide +kernel
theorem dX7_lay_55 : decode cX7_lay 55 = .ok (.iload_n 1, 1) := by decide +kernel
theorem dX7_lay_56 : decode cX7_lay 56 = .ok (.imul, 1) := by decide +kernel
theorem dX7_lay_57 : decode cX7_lay 57 = .ok (.iload_n 2, 1) := by decide +kernel
theorem dX7_lay_58 : decode cX7_lay 58 = .ok (.iadd, 1) := by decide +kernel
theorem dX7_lay_59 : decode cX7_lay 59 = .ok (.aload_n 0, 1) := by decide +kernel
theorem dX7_lay_60 : decode cX7_lay 60 = .ok (.getfield 45, 3) := by decide +kernel
theorem dX7_lay_63 : decode cX7_lay 63 = .ok (.iload_n 1, 1) := by decide +kernel
theorem dX7_lay_64 : decode cX7_lay 64 = .ok (.iaload, 1) := by decide +kernel
theorem dX7_lay_65 : decode cX7_lay 65 = .ok (.ifCond .ne 13, 3) := by decide +kernel
theorem dX7_lay_68 : decode cX7_lay 68 = .ok (.iload_n 3, 1) := by decide +kernel
theorem dX7_lay_69 : decode cX7_lay 69 = .ok (.bipush 24, 2) := by decide +kernel
theorem dX7_lay_71 : decode cX7_lay 71 = .ok (.ishl, 1) := by decide +kernel
theorem dX7_lay_72 : decode cX7_lay 72 = .ok (.bipush 24, 2) := by decide +kernel
theorem dX7_lay_74 : decode cX7_lay 74 = .ok (.ishr, 1) := by decide +kernel
theorem dX7_lay_75 : decode cX7_lay 75 = .ok (.goto 24, 3) := by decide +kernel
theorem dX7_lay_78 : decode cX7_lay 78 = .ok (.aload_n 0, 1) := by decide +kernel
theorem dX7_lay_79 : decode cX7_lay 79 = .ok (.getfield 45, 3) := by decide +kernel
theorem dX7_lay_82 : decode cX7_lay 82 = .ok (.iload_n 1, 1) := by decide +kernel
theorem dX7_lay_83 : decode cX7_lay 83 = .ok (.iaload, 1) := by decide +kernel
theorem dX7_lay_84 : decode cX7_lay 84 = .ok (.iconst 1, 1) := by decide +kernel
theorem dX7_lay_85 : decode cX7_lay 85 = .ok (.if_icmp .ne 13, 3) := by decide +kernel
theorem dX7_lay_88 : decode cX7_lay 88 = .ok (.iload_n 3, 1) := by decide +kernel
theorem dX7_lay_89 : decode cX7_lay 89 = .ok (.bipush 16, 2) := by decide +kernel
theorem dX7_lay_91 : decode cX7_lay 91 = .ok (.ishl, 1) := by decide +kernel
theorem dX7_lay_92 : decode cX7_lay 92 = .ok (.bipush 16, 2) := by decide +kernel
theorem dX7_lay_94 : decode cX7_lay 94 = .ok (.ishr, 1) := by decide +kernel
theorem dX7_lay_95 : decode cX7_lay 95 = .ok (.goto 4, 3) := by decide +kernel
theorem dX7_lay_98 : decode cX7_lay 98 = .ok (.iload_n 3, 1) := by decide +kernel
theorem dX7_lay_99 : decode cX7_lay 99 = .ok (.iastore, 1) := by decide +kernel
theorem dX7_lay_100 : decode cX7_lay 100 = .ok (.iconst 1, 1) := by decide +kernel
theorem dX7_lay_101 : decode cX7_lay 101 = .ok (.ireturn, 1) := by decide +kernel
theorem dX7_read_0 : decode cX7_read 0 = .ok (.iload_n 1, 1) := by decide +kernel
theorem dX7_read_1 : decode cX7_read 1 = .ok (.i2l, 1) := by decide +kernel
theorem dX7_read_2 : decode cX7_read 2 = .ok (.lconst 0, 1) := by decide +kernel
theorem dX7_read_3 : decode cX7_read 3 = .ok (.ldc2_w 172, 3) := by decide +kernel
theorem dX7_read_6 : decode cX7_read 6 = .ok (.invokestatic 56, 3) := by decide +kernel
theorem dX7_read_9 : decode cX7_read 9 = .ok (.ifCond .eq 28, 3) := by decide +kernel
theorem dX7_read_12 : decode cX7_read 12 = .ok (.iload_n 2, 1) := by decide +kernel
theorem dX7_read_13 : decode cX7_read 13 = .ok (.i2l, 1) := by decide +kernel
theorem dX7_read_14 : decode cX7_read 14 = .ok (.lconst 0, 1) := by decide +kernel
theorem dX7_read_15 : decode cX7_read 15 = .ok (.ldc2_w 239, 3) := by decide +kernel
theorem dX7_read_18 : decode cX7_read 18 = .ok (.invokestatic 56, 3) := by decide +kernel
theorem dX7_read_21 : decode cX7_read 21 = .ok (.ifCond .eq 16, 3) := by decide +kernel
theorem dX7_read_24 : decode cX7_read 24 = .ok (.iload 4, 2) := by decide +kernel
theorem dX7_read_26 : decode cX7_read 26 = .ok (.i2l, 1) := by decide +kernel
theorem dX7_read_27 : decode cX7_read 27 = .ok (.lconst 0, 1) := by decide +kernel
theorem dX7_read_28 : decode cX7_read 28 = .ok (.ldc2_w 227, 3) := by decide +kernel
theorem dX7_read_31 : decode cX7_read 31 = .ok (.invokestatic 56, 3) := by decide +kernel
theorem dX7_read_34 : decode cX7_read 34 = .ok (.ifCond .ne 5, 3) := by decide +kernel
theorem dX7_read_37 : decode cX7_read 37 = .ok (.iconst (-1), 1) := by decide +kernel
theorem dX7_read_38 : decode cX7_read 38 = .ok (.ireturn, 1) := by decide +kernel
theorem dX7_read_39 : decode cX7_read 39 = .ok (.aload_n 0, 1) := by decide +kernel
theorem dX7_read_40 : decode cX7_read 40 = .ok (.iconst 0, 1) := by decide +kernel
theorem dX7_read_41 : decode cX7_read 41 = .ok (.sipush 225, 3) := by decide +kernel
theorem dX7_read_44 : decode cX7_read 44 = .ok (.invokevirtual 193, 3) := by decide +kernel
theorem dX7_read_47 : decode cX7_read 47 = .ok (.iconst 0, 1) := by decide +kernel
theorem dX7_read_48 : decode cX7_read 48 = .ok (.istore 5, 2) := by decide +kernel
theorem dX7_read_50 : decode cX7_read 50 = .ok (.iconst 0, 1) := by decide +kernel
theorem dX7_read_51 : decode cX7_read 51 = .ok (.istore 6, 2) := by decide +kernel
theorem dX7_read_53 : decode cX7_read 53 = .ok (.iconst 0, 1) := by decide +kernel
theorem dX7_read_54 : decode cX7_read 54 = .ok (.istore 7, 2) := by decide +kernel
theorem dX7_read_56 : decode cX7_read 56 = .ok (.iload 7, 2) := by decide +kernel
theorem dX7_read_58 : decode cX7_read 58 = .ok (.iload 4, 2) := by decide +kernel
theorem dX7_read_60 : decode cX7_read 60 = .ok (.if_icmp .ge 119, 3) := by decide +kernel
theorem dX7_read_63 : decode cX7_read 63 = .ok (.iload 5, 2) := by decide +kernel
theorem dX7_read_65 : decode cX7_read 65 = .ok (.ifCond .ne 114, 3) := by decide +kernel
theorem dX7_read_68 : decode cX7_read 68 = .ok (.aload_n 0, 1) := by decide +kernel
theorem dX7_read_69 : decode cX7_read 69 = .ok (.getfield 45, 3) := by decide +kernel
theorem dX7_read_72 : decode cX7_read 72 = .ok (.iload_n 1, 1) := by decide +kernel
theorem dX7_read_73 : decode cX7_read 73 = .ok (.iaload, 1) := by decide +kernel
theorem dX7_read_74 : decode cX7_read 74 = .ok (.bipush (-4), 2) := by decide +kernel
theorem dX7_read_76 : decode cX7_read 76 = .ok (.if_icmp .ne 7, 3) := by decide +kernel
theorem dX7_read_79 : decode cX7_read 79 = .ok (.iconst 1, 1) := by decide +kernel
theorem dX7_read_80 : decode cX7_read 80 = .ok (.goto 44, 3) := by decide +kernel
theorem dX7_read_83 : decode cX7_read 83 = .ok (.aload_n 0, 1) := by decide +kernel
theorem dX7_read_84 : decode cX7_read 84 = .ok (.getfield 45, 3) := by decide +kernel
theorem dX7_read_87 : decode cX7_read 87 = .ok (.iload_n 1, 1) := by decide +kernel
theorem dX7_read_88 : decode cX7_read 88 = .ok (.iaload, 1) := by decide +kernel
theorem dX7_read_89 : decode cX7_read 89 = .ok (.iload_n 2, 1) := by decide +kernel
theorem dX7_read_90 : decode cX7_read 90 = .ok (.if_icmp .eq 7, 3) := by decide +kernel
theorem dX7_read_93 : decode cX7_read 93 = .ok (.iconst 3, 1) := by decide +kernel
theorem dX7_read_94 : decode cX7_read 94 = .ok (.goto 30, 3) := by decide +kernel
theorem dX7_read_97 : decode cX7_read 97 = .ok (.iload_n 3, 1) := by decide +kernel
theorem dX7_read_98 : decode cX7_read 98 = .ok (.i2l, 1) := by decide +kernel
theorem dX7_read_99 : decode cX7_read 99 = .ok (.iload 7, 2) := by decide +kernel
theorem dX7_read_101 : decode cX7_read 101 = .ok (.i2l, 1) := by decide +kernel
theorem dX7_read_102 : decode cX7_read 102 = .ok (.ladd, 1) := by decide +kernel
theorem dX7_read_103 : decode cX7_read 103 = .ok (.lconst 0, 1) := by decide +kernel
theorem dX7_read_104 : decode cX7_read 104 = .ok (.aload_n 0, 1) := by decide +kernel
theorem dX7_read_105 : decode cX7_read 105 = .ok (.getfield 48, 3) := by decide +kernel
theorem dX7_read_108 : decode cX7_read 108 = .ok (.iload_n 1, 1) := by decide +kernel
theorem dX7_read_109 : decode cX7_read 109 = .ok (.iaload, 1) := by decide +kernel
theorem dX7_read_110 : decode cX7_read 110 = .ok (.iconst 1, 1) := by decide +kernel
theorem dX7_read_111 : decode cX7_read 111 = .ok (.isub, 1) := by decide +kernel
theorem dX7_read_112 : decode cX7_read 112 = .ok (.i2l, 1) := by decide +kernel
theorem dX7_read_113 : decode cX7_read 113 = .ok (.invokestatic 56, 3) := by decide +kernel
theorem dX7_read_116 : decode cX7_read 116 = .ok (.ifCond .ne 7, 3) := by decide +kernel
theorem dX7_read_119 : decode cX7_read 119 = .ok (.iconst 2, 1) := by decide +kernel
theorem dX7_read_120 : decode cX7_read 120 = .ok (.goto 4, 3) := by decide +kernel
theorem dX7_read_123 : decode cX7_read 123 = .ok (.iconst 0, 1) := by decide +kernel
theorem dX7_read_124 : decode cX7_read 124 = .ok (.istore 5, 2) := by decide +kernel
theorem dX7_read_126 : decode cX7_read 126 = .ok (.iload 5, 2) := by decide +kernel
theorem dX7_read_128 : decode cX7_read 128 = .ok (.ifCond .ne 45, 3) := by decide +kernel
theorem dX7_read_131 : decode cX7_read 131 = .ok (.bipush 40, 2) := by decide +kernel
theorem dX7_read_133 : decode cX7_read 133 = .ok (.iload_n 1, 1) := by decide +kernel
theorem dX7_read_134 : decode cX7_read 134 = .ok (.imul, 1) := by decide +kernel
theorem dX7_read_135 : decode cX7_read 135 = .ok (.iload_n 3, 1) := by decide +kernel
theorem dX7_read_136 : decode cX7_read 136 = .ok (.iadd, 1) := by decide +kernel
theorem dX7_read_137 : decode cX7_read 137 = .ok (.iload 7, 2) := by decide +kernel
theorem dX7_read_139 : decode cX7_read 139 = .ok (.iadd, 1) := by decide +kernel
theorem dX7_read_140 : decode cX7_read 140 = .ok (.istore 8, 2) := by decide +kernel
theorem dX7_read_142 : decode cX7_read 142 = .ok (.aload_n 0, 1) := by decide +kernel
theorem dX7_read_143 : decode cX7_read 143 = .ok (.aload_n 0, 1) := by decide +kernel
theorem dX7_read_144 : decode cX7_read 144 = .ok (.getfield 51, 3) := by decide +kernel
theorem dX7_read_147 : decode cX7_read 147 = .ok (.iload 8, 2) := by decide +kernel
theorem dX7_read_149 : decode cX7_read 149 = .ok (.iaload, 1) := by decide +kernel
theorem dX7_read_150 : decode cX7_read 150 = .ok (.invokevirtual 178, 3) := by decide +kernel
theorem dX7_read_153 : decode cX7_read 153 = .ok (.ifCond .ge 17, 3) := by decide +kernel
theorem dX7_read_156 : decode cX7_read 156 = .ok (.aload_n 0, 1) := by decide +kernel
theorem dX7_read_157 : decode cX7_read 157 = .ok (.sipush 225, 3) := by decide +kernel
theorem dX7_read_160 : decode cX7_read 160 = .ok (.iconst 0, 1) := by decide +kernel
theorem dX7_read_161 : decode cX7_read 161 = .ok (.invokevirtual 193, 3) := by decide +kernel
theorem dX7_read_164 : decode cX7_read 164 = .ok (.bipush (-20), 2) := by decide +kernel
theorem dX7_read_166 : decode cX7_read 166 = .ok (.iload 6, 2) := by decide +kernel
theorem dX7_read_168 : decode cX7_read 168 = .ok (.isub, 1) := by decide +kernel
theorem dX7_read_169 : decode cX7_read 169 = .ok (.ireturn, 1) := by decide +kernel
theorem dX7_read_170 : decode cX7_read 170 = .ok (.iinc 6 1, 3) := by decide +kernel
theorem dX7_read_173 : decode cX7_read 173 = .ok (.iinc 7 1, 3) := by decide +kernel
theorem dX7_read_176 : decode cX7_read 176 = .ok (.goto (-120), 3) := by decide +kernel
theorem dX7_read_179 : decode cX7_read 179 = .ok (.aload_n 0, 1) := by decide +kernel
theorem dX7_read_180 : decode cX7_read 180 = .ok (.iload 5, 2) := by decide +kernel
theorem dX7_read_182 : decode cX7_read 182 = .ok (.putfield 241, 3) := by decide +kernel
theorem dX7_read_185 : decode cX7_read 185 = .ok (.iload 6, 2) := by decide +kernel
theorem dX7_read_187 : decode cX7_read 187 = .ok (.ireturn, 1) := by decide +kernel
theorem dX7_torn_0 : decode cX7_torn 0 = .ok (.aload_n 0, 1) := by decide +kernel
theorem dX7_torn_1 : decode cX7_torn 1 = .ok (.getfield 241, 3) := by decide +kernel
theorem dX7_torn_4 : decode cX7_torn 4 = .ok (.ireturn, 1) := by decide +kernel
theorem dX7_count_0 : decode cX7_count 0 = .ok (.iconst 0, 1) := by decide +kernel
theorem dX7_count_1 : decode cX7_count 1 = .ok (.istore_n 2, 1) := by decide +kernel
theorem dX7_count_2 : decode cX7_count 2 = .ok (.iconst 0, 1) := by decide +kernel
theorem dX7_count_3 : decode cX7_count 3 = .ok (.istore_n 3, 1) := by decide +kernel
theorem dX7_count_4 : decode cX7_count 4 = .ok (.iconst 0, 1) := by decide +kernel
theorem dX7_count_5 : decode cX7_count 5 = .ok (.istore 4, 2) := by decide +kernel
theorem dX7_count_7 : decode cX7_count 7 = .ok (.iload 4, 2) := by decide +kernel
theorem dX7_count_9 : decode cX7_count 9 = .ok (.aload_n 0, 1) := by decide +kernel
theorem dX7_count_10 : decode cX7_count 10 = .ok (.getfield 7, 3) := by decide +kernel
theorem dX7_count_13 : decode cX7_count 13 = .ok (.bipush 8, 2) := by decide +kernel
theorem dX7_count_15 : decode cX7_count 15 = .ok (.iaload, 1) := by decide +kernel
theorem dX7_count_16 : decode cX7_count 16 = .ok (.if_icmp .ge 21, 3) := by decide +kernel
theorem dX7_count_19 : decode cX7_count 19 = .ok (.iload_n 2, 1) := by decide +kernel
theorem dX7_count_20 : decode cX7_count 20 = .ok (.aload_n 0, 1) := by decide +kernel
theorem dX7_count_21 : decode cX7_count 21 = .ok (.getfield 7, 3) := by decide +kernel
theorem dX7_count_24 : decode cX7_count 24 = .ok (.iconst 4, 1) := by decide +kernel
theorem dX7_count_25 : decode cX7_count 25 = .ok (.iload 4, 2) := by decide +kernel
theorem dX7_count_27 : decode cX7_count 27 = .ok (.iadd, 1) := by decide +kernel
theorem dX7_count_28 : decode cX7_count 28 = .ok (.iaload, 1) := by decide +kernel
theorem dX7_count_29 : decode cX7_count 29 = .ok (.iadd, 1) := by decide +kernel
theorem dX7_count_30 : decode cX7_count 30 = .ok (.istore_n 2, 1) := by decide +kernel
theorem dX7_count_31 : decode cX7_count 31 = .ok (.iinc 4 1, 3) := by decide +kernel
theorem dX7_count_34 : decode cX7_count 34 = .ok (.goto (-27), 3) := by decide +kernel
theorem dX7_count_37 : decode cX7_count 37 = .ok (.iconst 0, 1) := by decide +kernel
theorem dX7_count_38 : decode cX7_count 38 = .ok (.istore 4, 2) := by decide +kernel
theorem dX7_count_40 : decode cX7_count 40 = .ok (.iload 4, 2) := by decide +kernel
theorem dX7_count_42 : decode cX7_count 42 = .ok (.aload_n 0, 1) := by decide +kernel
theorem dX7_count_43 : decode cX7_count 43 = .ok (.getfield 7, 3) := by decide +kernel
theorem dX7_count_46 : decode cX7_count 46 = .ok (.bipush 25, 2) := by decide +kernel
theorem dX7_count_48 : decode cX7_count 48 = .ok (.iaload, 1) := by decide +kernel
theorem dX7_count_49 : decode cX7_count 49 = .ok (.if_icmp .ge 22, 3) := by decide +kernel
theorem dX7_count_52 : decode cX7_count 52 = .ok (.iload_n 3, 1) := by decide +kernel
theorem dX7_count_53 : decode cX7_count 53 = .ok (.aload_n 0, 1) := by decide +kernel
theorem dX7_count_54 : decode cX7_count 54 = .ok (.getfield 7, 3) := by decide +kernel
theorem dX7_count_57 : decode cX7_count 57 = .ok (.bipush 9, 2) := by decide +kernel
theorem dX7_count_59 : decode cX7_count 59 = .ok (.iload 4, 2) := by decide +kernel
theorem dX7_count_61 : decode cX7_count 61 = .ok (.iadd, 1) := by decide +kernel
theorem dX7_count_62 : decode cX7_count 62 = .ok (.iaload, 1) := by decide +kernel
theorem dX7_count_63 : decode cX7_count 63 = .ok (.iadd, 1) := by decide +kernel
theorem dX7_count_64 : decode cX7_count 64 = .ok (.istore_n 3, 1) := by decide +kernel
theorem dX7_count_65 : decode cX7_count 65 = .ok (.iinc 4 1, 3) := by decide +kernel
theorem dX7_count_68 : decode cX7_count 68 = .ok (.goto (-28), 3) := by decide +kernel
theorem dX7_count_71 : decode cX7_count 71 = .ok (.iload_n 1, 1) := by decide +kernel
theorem dX7_count_72 : decode cX7_count 72 = .ok (.tableswitch 107 0 5 #[40, 45, 75, 80, 103, 105], 40) := by decide +kernel
theorem dX7_count_112 : decode cX7_count 112 = .ok (.aload_n 0, 1) := by decide +kernel
theorem dX7_count_113 : decode cX7_count 113 = .ok (.getfield 135, 3) := by decide +kernel
theorem dX7_count_116 : decode cX7_count 116 = .ok (.ireturn, 1) := by decide +kernel
theorem dX7_count_117 : decode cX7_count 117 = .ok (.aload_n 0, 1) := by decide +kernel
theorem dX7_count_118 : decode cX7_count 118 = .ok (.getfield 41, 3) := by decide +kernel
theorem dX7_count_121 : decode cX7_count 121 = .ok (.iconst 0, 1) := by decide +kernel
theorem dX7_count_122 : decode cX7_count 122 = .ok (.baload, 1) := by decide +kernel
theorem dX7_count_123 : decode cX7_count 123 = .ok (.ifCond .eq 7, 3) := by decide +kernel
theorem dX7_count_126 : decode cX7_count 126 = .ok (.iconst 1, 1) := by decide +kernel
theorem dX7_count_127 : decode cX7_count 127 = .ok (.goto 4, 3) := by decide +kernel
theorem dX7_count_130 : decode cX7_count 130 = .ok (.iconst 0, 1) := by decide +kernel
theorem dX7_count_131 : decode cX7_count 131 = .ok (.aload_n 0, 1) := by decide +kernel
theorem dX7_count_132 : decode cX7_count 132 = .ok (.getfield 41, 3) := by decide +kernel
theorem dX7_count_135 : decode cX7_count 135 = .ok (.iconst 1, 1) := by decide +kernel
theorem dX7_count_136 : decode cX7_count 136 = .ok (.baload, 1) := by decide +kernel
theorem dX7_count_137 : decode cX7_count 137 = .ok (.ifCond .eq 7, 3) := by decide +kernel
theorem dX7_count_140 : decode cX7_count 140 = .ok (.iconst 1, 1) := by decide +kernel
theorem dX7_count_141 : decode cX7_count 141 = .ok (.goto 4, 3) := by decide +kernel
theorem dX7_count_144 : decode cX7_count 144 = .ok (.iconst 0, 1) := by decide +kernel
theorem dX7_count_145 : decode cX7_count 145 = .ok (.iadd, 1) := by decide +kernel
theorem dX7_count_146 : decode cX7_count 146 = .ok (.ireturn, 1) := by decide +kernel
theorem dX7_count_147 : decode cX7_count 147 = .ok (.aload_n 0, 1) := by decide +kernel
theorem dX7_count_148 : decode cX7_count 148 = .ok (.getfield 60, 3) := by decide +kernel
theorem dX7_count_151 : decode cX7_count 151 = .ok (.ireturn, 1) := by decide +kernel
theorem dX7_count_152 : decode cX7_count 152 = .ok (.aload_n 0, 1) := by decide +kernel
theorem dX7_count_153 : decode cX7_count 153 = .ok (.getfield 45, 3) := by decide +kernel
theorem dX7_count_156 : decode cX7_count 156 = .ok (.iconst 0, 1) := by decide +kernel
theorem dX7_count_157 : decode cX7_count 157 = .ok (.iaload, 1) := by decide +kernel
theorem dX7_count_158 : decode cX7_count 158 = .ok (.bipush (-4), 2) := by decide +kernel
theorem dX7_count_160 : decode cX7_count 160 = .ok (.if_icmp .ne 8, 3) := by decide +kernel
theorem dX7_count_163 : decode cX7_count 163 = .ok (.bipush (-4), 2) := by decide +kernel
theorem dX7_count_165 : decode cX7_count 165 = .ok (.goto 9, 3) := by decide +kernel
theorem dX7_count_168 : decode cX7_count 168 = .ok (.aload_n 0, 1) := by decide +kernel
theorem dX7_count_169 : decode cX7_count 169 = .ok (.getfield 48, 3) := by decide +kernel
theorem dX7_count_172 : decode cX7_count 172 = .ok (.iconst 0, 1) := by decide +kernel
theorem dX7_count_173 : decode cX7_count 173 = .ok (.iaload, 1) := by decide +kernel
theorem dX7_count_174 : decode cX7_count 174 = .ok (.ireturn, 1) := by decide +kernel
theorem dX7_count_175 : decode cX7_count 175 = .ok (.iload_n 2, 1) := by decide +kernel
theorem dX7_count_176 : decode cX7_count 176 = .ok (.ireturn, 1) := by decide +kernel
