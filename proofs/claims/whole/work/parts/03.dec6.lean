theorem dX11_hull_84 : decode cX11_hull 84 = .ok (.iload_n 1, 1) := by decide +kernel
theorem dX11_hull_85 : decode cX11_hull 85 = .ok (.istore_n 2, 1) := by decide +kernel
theorem dX11_hull_86 : decode cX11_hull 86 = .ok (.iload_n 2, 1) := by decide +kernel
theorem dX11_hull_87 : decode cX11_hull 87 = .ok (.iconst (-1), 1) := by decide +kernel
theorem dX11_hull_88 : decode cX11_hull 88 = .ok (.if_icmp .eq 131, 3) := by decide +kernel
theorem dX11_hull_91 : decode cX11_hull 91 = .ok (.aload_n 0, 1) := by decide +kernel
theorem dX11_hull_92 : decode cX11_hull 92 = .ok (.getfield 338, 3) := by decide +kernel
theorem dX11_hull_95 : decode cX11_hull 95 = .ok (.ifCond .eq 8, 3) := by decide +kernel
theorem dX11_hull_98 : decode cX11_hull 98 = .ok (.iload_n 2, 1) := by decide +kernel
theorem dX11_hull_99 : decode cX11_hull 99 = .ok (.iload_n 1, 1) := by decide +kernel
theorem dX11_hull_100 : decode cX11_hull 100 = .ok (.if_icmp .eq 119, 3) := by decide +kernel
theorem dX11_hull_103 : decode cX11_hull 103 = .ok (.aload_n 0, 1) := by decide +kernel
theorem dX11_hull_104 : decode cX11_hull 104 = .ok (.getfield 100, 3) := by decide +kernel
theorem dX11_hull_107 : decode cX11_hull 107 = .ok (.aload_n 0, 1) := by decide +kernel
theorem dX11_hull_108 : decode cX11_hull 108 = .ok (.getfield 338, 3) := by decide +kernel
theorem dX11_hull_111 : decode cX11_hull 111 = .ok (.iload_n 2, 1) := by decide +kernel
theorem dX11_hull_112 : decode cX11_hull 112 = .ok (.iastore, 1) := by decide +kernel
theorem dX11_hull_113 : decode cX11_hull 113 = .ok (.aload_n 0, 1) := by decide +kernel
theorem dX11_hull_114 : decode cX11_hull 114 = .ok (.dup, 1) := by decide +kernel
theorem dX11_hull_115 : decode cX11_hull 115 = .ok (.getfield 338, 3) := by decide +kernel
theorem dX11_hull_118 : decode cX11_hull 118 = .ok (.iconst 1, 1) := by decide +kernel
theorem dX11_hull_119 : decode cX11_hull 119 = .ok (.iadd, 1) := by decide +kernel
theorem dX11_hull_120 : decode cX11_hull 120 = .ok (.putfield 338, 3) := by decide +kernel
theorem dX11_hull_123 : decode cX11_hull 123 = .ok (.iconst (-1), 1) := by decide +kernel
theorem dX11_hull_124 : decode cX11_hull 124 = .ok (.istore_n 3, 1) := by decide +kernel
theorem dX11_hull_125 : decode cX11_hull 125 = .ok (.iconst 0, 1) := by decide +kernel
theorem dX11_hull_126 : decode cX11_hull 126 = .ok (.istore 4, 2) := by decide +kernel
theorem dX11_hull_128 : decode cX11_hull 128 = .ok (.iload 4, 2) := by decide +kernel
theorem dX11_hull_130 : decode cX11_hull 130 = .ok (.bipush 24, 2) := by decide +kernel
theorem dX11_hull_132 : decode cX11_hull 132 = .ok (.if_icmp .ge 82, 3) := by decide +kernel
theorem dX11_hull_135 : decode cX11_hull 135 = .ok (.iload 4, 2) := by decide +kernel
theorem dX11_hull_137 : decode cX11_hull 137 = .ok (.iload_n 2, 1) := by decide +kernel
theorem dX11_hull_138 : decode cX11_hull 138 = .ok (.if_icmp .eq 70, 3) := by decide +kernel
theorem dX11_hull_141 : decode cX11_hull 141 = .ok (.aload_n 0, 1) := by decide +kernel
theorem dX11_hull_142 : decode cX11_hull 142 = .ok (.iload 4, 2) := by decide +kernel
theorem dX11_hull_144 : decode cX11_hull 144 = .ok (.invokevirtual 148, 3) := by decide +kernel
theorem dX11_hull_147 : decode cX11_hull 147 = .ok (.ifCond .ne 6, 3) := by decide +kernel
theorem dX11_hull_150 : decode cX11_hull 150 = .ok (.goto 58, 3) := by decide +kernel
theorem dX11_hull_153 : decode cX11_hull 153 = .ok (.iload_n 3, 1) := by decide +kernel
theorem dX11_hull_154 : decode cX11_hull 154 = .ok (.iconst (-1), 1) := by decide +kernel
theorem dX11_hull_155 : decode cX11_hull 155 = .ok (.if_icmp .ne 9, 3) := by decide +kernel
theorem dX11_hull_158 : decode cX11_hull 158 = .ok (.ldc2_w 176, 3) := by decide +kernel
theorem dX11_hull_161 : decode cX11_hull 161 = .ok (.goto 11, 3) := by decide +kernel
theorem dX11_hull_164 : decode cX11_hull 164 = .ok (.aload_n 0, 1) := by decide +kernel
theorem dX11_hull_165 : decode cX11_hull 165 = .ok (.iload_n 2, 1) := by decide +kernel
theorem dX11_hull_166 : decode cX11_hull 166 = .ok (.iload_n 3, 1) := by decide +kernel
theorem dX11_hull_167 : decode cX11_hull 167 = .ok (.iload 4, 2) := by decide +kernel
theorem dX11_hull_169 : decode cX11_hull 169 = .ok (.invokevirtual 250, 3) := by decide +kernel
theorem dX11_hull_172 : decode cX11_hull 172 = .ok (.lstore 5, 2) := by decide +kernel
theorem dX11_hull_174 : decode cX11_hull 174 = .ok (.lload 5, 2) := by decide +kernel
theorem dX11_hull_176 : decode cX11_hull 176 = .ok (.lconst 0, 1) := by decide +kernel
theorem dX11_hull_177 : decode cX11_hull 177 = .ok (.lcmp, 1) := by decide +kernel
theorem dX11_hull_178 : decode cX11_hull 178 = .ok (.ifCond .lt 27, 3) := by decide +kernel
theorem dX11_hull_181 : decode cX11_hull 181 = .ok (.lload 5, 2) := by decide +kernel
theorem dX11_hull_183 : decode cX11_hull 183 = .ok (.lconst 0, 1) := by decide +kernel
theorem dX11_hull_184 : decode cX11_hull 184 = .ok (.lcmp, 1) := by decide +kernel
theorem dX11_hull_185 : decode cX11_hull 185 = .ok (.ifCond .ne 23, 3) := by decide +kernel
theorem dX11_hull_188 : decode cX11_hull 188 = .ok (.aload_n 0, 1) := by decide +kernel
theorem dX11_hull_189 : decode cX11_hull 189 = .ok (.iload_n 2, 1) := by decide +kernel
theorem dX11_hull_190 : decode cX11_hull 190 = .ok (.iload 4, 2) := by decide +kernel
theorem dX11_hull_192 : decode cX11_hull 192 = .ok (.invokevirtual 276, 3) := by decide +kernel
theorem dX11_hull_195 : decode cX11_hull 195 = .ok (.aload_n 0, 1) := by decide +kernel
theorem dX11_hull_196 : decode cX11_hull 196 = .ok (.iload_n 2, 1) := by decide +kernel
theorem dX11_hull_197 : decode cX11_hull 197 = .ok (.iload_n 3, 1) := by decide +kernel
theorem dX11_hull_198 : decode cX11_hull 198 = .ok (.invokevirtual 276, 3) := by decide +kernel
theorem dX11_hull_201 : decode cX11_hull 201 = .ok (.lcmp, 1) := by decide +kernel
theorem dX11_hull_202 : decode cX11_hull 202 = .ok (.ifCond .le 6, 3) := by decide +kernel
theorem dX11_hull_205 : decode cX11_hull 205 = .ok (.iload 4, 2) := by decide +kernel
theorem dX11_hull_207 : decode cX11_hull 207 = .ok (.istore_n 3, 1) := by decide +kernel
theorem dX11_hull_208 : decode cX11_hull 208 = .ok (.iinc 4 1, 3) := by decide +kernel
theorem dX11_hull_211 : decode cX11_hull 211 = .ok (.goto (-83), 3) := by decide +kernel
theorem dX11_hull_214 : decode cX11_hull 214 = .ok (.iload_n 3, 1) := by decide +kernel
theorem dX11_hull_215 : decode cX11_hull 215 = .ok (.istore_n 2, 1) := by decide +kernel
theorem dX11_hull_216 : decode cX11_hull 216 = .ok (.goto (-130), 3) := by decide +kernel
theorem dX11_hull_219 : decode cX11_hull 219 = .ok (.aload_n 0, 1) := by decide +kernel
theorem dX11_hull_220 : decode cX11_hull 220 = .ok (.getfield 338, 3) := by decide +kernel
theorem dX11_hull_223 : decode cX11_hull 223 = .ok (.ireturn, 1) := by decide +kernel
theorem dX11_around_0 : decode cX11_around 0 = .ok (.iload_n 1, 1) := by decide +kernel
theorem dX11_around_1 : decode cX11_around 1 = .ok (.ifCond .lt 20, 3) := by decide +kernel
theorem dX11_around_4 : decode cX11_around 4 = .ok (.iload_n 1, 1) := by decide +kernel
theorem dX11_around_5 : decode cX11_around 5 = .ok (.aload_n 0, 1) := by decide +kernel
theorem dX11_around_6 : decode cX11_around 6 = .ok (.invokevirtual 341, 3) := by decide +kernel
theorem dX11_around_9 : decode cX11_around 9 = .ok (.if_icmp .ge 12, 3) := by decide +kernel
theorem dX11_around_12 : decode cX11_around 12 = .ok (.aload_n 0, 1) := by decide +kernel
theorem dX11_around_13 : decode cX11_around 13 = .ok (.getfield 100, 3) := by decide +kernel
theorem dX11_around_16 : decode cX11_around 16 = .ok (.iload_n 1, 1) := by decide +kernel
theorem dX11_around_17 : decode cX11_around 17 = .ok (.iaload, 1) := by decide +kernel
theorem dX11_around_18 : decode cX11_around 18 = .ok (.goto 4, 3) := by decide +kernel
theorem dX11_around_21 : decode cX11_around 21 = .ok (.iconst (-1), 1) := by decide +kernel
theorem dX11_around_22 : decode cX11_around 22 = .ok (.ireturn, 1) := by decide +kernel
theorem dX11_toSides_0 : decode cX11_toSides 0 = .ok (.ldc2_w 344, 3) := by decide +kernel
theorem dX11_toSides_3 : decode cX11_toSides 3 = .ok (.lstore_n 3, 1) := by decide +kernel
theorem dX11_toSides_4 : decode cX11_toSides 4 = .ok (.iconst 0, 1) := by decide +kernel
theorem dX11_toSides_5 : decode cX11_toSides 5 = .ok (.istore 5, 2) := by decide +kernel
theorem dX11_toSides_7 : decode cX11_toSides 7 = .ok (.iload 5, 2) := by decide +kernel
theorem dX11_toSides_9 : decode cX11_toSides 9 = .ok (.iconst 4, 1) := by decide +kernel
theorem dX11_toSides_10 : decode cX11_toSides 10 = .ok (.if_icmp .ge 111, 3) := by decide +kernel
theorem dX11_toSides_13 : decode cX11_toSides 13 = .ok (.iload_n 2, 1) := by decide +kernel
theorem dX11_toSides_14 : decode cX11_toSides 14 = .ok (.iload 5, 2) := by decide +kernel
theorem dX11_toSides_16 : decode cX11_toSides 16 = .ok (.ishr, 1) := by decide +kernel
theorem dX11_toSides_17 : decode cX11_toSides 17 = .ok (.iconst 1, 1) := by decide +kernel
theorem dX11_toSides_18 : decode cX11_toSides 18 = .ok (.iand, 1) := by decide +kernel
theorem dX11_toSides_19 : decode cX11_toSides 19 = .ok (.ifCond .ne 6, 3) := by decide +kernel
theorem dX11_toSides_22 : decode cX11_toSides 22 = .ok (.goto 93, 3) := by decide +kernel
theorem dX11_toSides_25 : decode cX11_toSides 25 = .ok (.iload 5, 2) := by decide +kernel
theorem dX11_toSides_27 : decode cX11_toSides 27 = .ok (.ifCond .ne 13, 3) := by decide +kernel
theorem dX11_toSides_30 : decode cX11_toSides 30 = .ok (.aload_n 0, 1) := by decide +kernel
theorem dX11_toSides_31 : decode cX11_toSides 31 = .ok (.getfield 24, 3) := by decide +kernel
theorem dX11_toSides_34 : decode cX11_toSides 34 = .ok (.iload_n 1, 1) := by decide +kernel
theorem dX11_toSides_35 : decode cX11_toSides 35 = .ok (.iaload, 1) := by decide +kernel
theorem dX11_toSides_36 : decode cX11_toSides 36 = .ok (.i2l, 1) := by decide +kernel
theorem dX11_toSides_37 : decode cX11_toSides 37 = .ok (.goto 52, 3) := by decide +kernel
theorem dX11_toSides_40 : decode cX11_toSides 40 = .ok (.iload 5, 2) := by decide +kernel
theorem dX11_toSides_42 : decode cX11_toSides 42 = .ok (.iconst 1, 1) := by decide +kernel
theorem dX11_toSides_43 : decode cX11_toSides 43 = .ok (.if_icmp .ne 18, 3) := by decide +kernel
theorem dX11_toSides_46 : decode cX11_toSides 46 = .ok (.aload_n 0, 1) := by decide +kernel
theorem dX11_toSides_47 : decode cX11_toSides 47 = .ok (.getfield 7, 3) := by decide +kernel
theorem dX11_toSides_50 : decode cX11_toSides 50 = .ok (.aload_n 0, 1) := by decide +kernel
theorem dX11_toSides_51 : decode cX11_toSides 51 = .ok (.getfield 20, 3) := by decide +kernel
theorem dX11_toSides_54 : decode cX11_toSides 54 = .ok (.iload_n 1, 1) := by decide +kernel
theorem dX11_toSides_55 : decode cX11_toSides 55 = .ok (.iaload, 1) := by decide +kernel
theorem dX11_toSides_56 : decode cX11_toSides 56 = .ok (.isub, 1) := by decide +kernel
theorem dX11_toSides_57 : decode cX11_toSides 57 = .ok (.i2l, 1) := by decide +kernel
theorem dX11_toSides_58 : decode cX11_toSides 58 = .ok (.goto 31, 3) := by decide +kernel
theorem dX11_toSides_61 : decode cX11_toSides 61 = .ok (.iload 5, 2) := by decide +kernel
theorem dX11_toSides_63 : decode cX11_toSides 63 = .ok (.iconst 2, 1) := by decide +kernel
theorem dX11_toSides_64 : decode cX11_toSides 64 = .ok (.if_icmp .ne 18, 3) := by decide +kernel
theorem dX11_toSides_67 : decode cX11_toSides 67 = .ok (.aload_n 0, 1) := by decide +kernel
theorem dX11_toSides_68 : decode cX11_toSides 68 = .ok (.getfield 13, 3) := by decide +kernel
theorem dX11_toSides_71 : decode cX11_toSides 71 = .ok (.aload_n 0, 1) := by decide +kernel
theorem dX11_toSides_72 : decode cX11_toSides 72 = .ok (.getfield 24, 3) := by decide +kernel
theorem dX11_toSides_75 : decode cX11_toSides 75 = .ok (.iload_n 1, 1) := by decide +kernel
theorem dX11_toSides_76 : decode cX11_toSides 76 = .ok (.iaload, 1) := by decide +kernel
theorem dX11_toSides_77 : decode cX11_toSides 77 = .ok (.isub, 1) := by decide +kernel
theorem dX11_toSides_78 : decode cX11_toSides 78 = .ok (.i2l, 1) := by decide +kernel
theorem dX11_toSides_79 : decode cX11_toSides 79 = .ok (.goto 10, 3) := by decide +kernel
theorem dX11_toSides_82 : decode cX11_toSides 82 = .ok (.aload_n 0, 1) := by decide +kernel
theorem dX11_toSides_83 : decode cX11_toSides 83 = .ok (.getfield 20, 3) := by decide +kernel
theorem dX11_toSides_86 : decode cX11_toSides 86 = .ok (.iload_n 1, 1) := by decide +kernel
theorem dX11_toSides_87 : decode cX11_toSides 87 = .ok (.iaload, 1) := by decide +kernel
theorem dX11_toSides_88 : decode cX11_toSides 88 = .ok (.i2l, 1) := by decide +kernel
theorem dX11_toSides_89 : decode cX11_toSides 89 = .ok (.lstore 6, 2) := by decide +kernel
theorem dX11_toSides_91 : decode cX11_toSides 91 = .ok (.ldc2_w 282, 3) := by decide +kernel
theorem dX11_toSides_94 : decode cX11_toSides 94 = .ok (.lload 6, 2) := by decide +kernel
theorem dX11_toSides_96 : decode cX11_toSides 96 = .ok (.lmul, 1) := by decide +kernel
theorem dX11_toSides_97 : decode cX11_toSides 97 = .ok (.lload 6, 2) := by decide +kernel
theorem dX11_toSides_99 : decode cX11_toSides 99 = .ok (.lmul, 1) := by decide +kernel
theorem dX11_toSides_100 : decode cX11_toSides 100 = .ok (.lload_n 3, 1) := by decide +kernel
theorem dX11_toSides_101 : decode cX11_toSides 101 = .ok (.lcmp, 1) := by decide +kernel
theorem dX11_toSides_102 : decode cX11_toSides 102 = .ok (.ifCond .ge 13, 3) := by decide +kernel
theorem dX11_toSides_105 : decode cX11_toSides 105 = .ok (.ldc2_w 282, 3) := by decide +kernel
theorem dX11_toSides_108 : decode cX11_toSides 108 = .ok (.lload 6, 2) := by decide +kernel
theorem dX11_toSides_110 : decode cX11_toSides 110 = .ok (.lmul, 1) := by decide +kernel
theorem dX11_toSides_111 : decode cX11_toSides 111 = .ok (.lload 6, 2) := by decide +kernel
theorem dX11_toSides_113 : decode cX11_toSides 113 = .ok (.lmul, 1) := by decide +kernel
theorem dX11_toSides_114 : decode cX11_toSides 114 = .ok (.lstore_n 3, 1) := by decide +kernel
theorem dX11_toSides_115 : decode cX11_toSides 115 = .ok (.iinc 5 1, 3) := by decide +kernel
theorem dX11_toSides_118 : decode cX11_toSides 118 = .ok (.goto (-111), 3) := by decide +kernel
theorem dX11_toSides_121 : decode cX11_toSides 121 = .ok (.lload_n 3, 1) := by decide +kernel
theorem dX11_toSides_122 : decode cX11_toSides 122 = .ok (.lreturn, 1) := by decide +kernel
theorem dX11_toCorner_0 : decode cX11_toCorner 0 = .ok (.ldc2_w 344, 3) := by decide +kernel
theorem dX11_toCorner_3 : decode cX11_toCorner 3 = .ok (.lstore_n 2, 1) := by decide +kernel
theorem dX11_toCorner_4 : decode cX11_toCorner 4 = .ok (.iconst 0, 1) := by decide +kernel
theorem dX11_toCorner_5 : decode cX11_toCorner 5 = .ok (.istore 4, 2) := by decide +kernel
theorem dX11_toCorner_7 : decode cX11_toCorner 7 = .ok (.iload 4, 2) := by decide +kernel
theorem dX11_toCorner_9 : decode cX11_toCorner 9 = .ok (.bipush 24, 2) := by decide +kernel
theorem dX11_toCorner_11 : decode cX11_toCorner 11 = .ok (.if_icmp .ge 89, 3) := by decide +kernel
theorem dX11_toCorner_14 : decode cX11_toCorner 14 = .ok (.aload_n 0, 1) := by decide +kernel
theorem dX11_toCorner_15 : decode cX11_toCorner 15 = .ok (.iload 4, 2) := by decide +kernel
theorem dX11_toCorner_17 : decode cX11_toCorner 17 = .ok (.invokevirtual 148, 3) := by decide +kernel
theorem dX11_toCorner_20 : decode cX11_toCorner 20 = .ok (.ifCond .ne 6, 3) := by decide +kernel
theorem dX11_toCorner_23 : decode cX11_toCorner 23 = .ok (.goto 71, 3) := by decide +kernel
theorem dX11_toCorner_26 : decode cX11_toCorner 26 = .ok (.ldc2_w 282, 3) := by decide +kernel
theorem dX11_toCorner_29 : decode cX11_toCorner 29 = .ok (.aload_n 0, 1) := by decide +kernel
theorem dX11_toCorner_30 : decode cX11_toCorner 30 = .ok (.getfield 20, 3) := by decide +kernel
theorem dX11_toCorner_33 : decode cX11_toCorner 33 = .ok (.iload 4, 2) := by decide +kernel
theorem dX11_toCorner_35 : decode cX11_toCorner 35 = .ok (.iaload, 1) := by decide +kernel
theorem dX11_toCorner_36 : decode cX11_toCorner 36 = .ok (.iload_n 1, 1) := by decide +kernel
theorem dX11_toCorner_37 : decode cX11_toCorner 37 = .ok (.iconst 1, 1) := by decide +kernel
theorem dX11_toCorner_38 : decode cX11_toCorner 38 = .ok (.if_icmp .eq 8, 3) := by decide +kernel
theorem dX11_toCorner_41 : decode cX11_toCorner 41 = .ok (.iload_n 1, 1) := by decide +kernel
theorem dX11_toCorner_42 : decode cX11_toCorner 42 = .ok (.iconst 2, 1) := by decide +kernel
theorem dX11_toCorner_43 : decode cX11_toCorner 43 = .ok (.if_icmp .ne 10, 3) := by decide +kernel
theorem dX11_toCorner_46 : decode cX11_toCorner 46 = .ok (.aload_n 0, 1) := by decide +kernel
theorem dX11_toCorner_47 : decode cX11_toCorner 47 = .ok (.getfield 7, 3) := by decide +kernel
theorem dX11_toCorner_50 : decode cX11_toCorner 50 = .ok (.goto 4, 3) := by decide +kernel
theorem dX11_toCorner_53 : decode cX11_toCorner 53 = .ok (.iconst 0, 1) := by decide +kernel
theorem dX11_toCorner_54 : decode cX11_toCorner 54 = .ok (.isub, 1) := by decide +kernel
theorem dX11_toCorner_55 : decode cX11_toCorner 55 = .ok (.i2l, 1) := by decide +kernel
theorem dX11_toCorner_56 : decode cX11_toCorner 56 = .ok (.aload_n 0, 1) := by decide +kernel
theorem dX11_toCorner_57 : decode cX11_toCorner 57 = .ok (.getfield 24, 3) := by decide +kernel
theorem dX11_toCorner_60 : decode cX11_toCorner 60 = .ok (.iload 4, 2) := by decide +kernel
theorem dX11_toCorner_62 : decode cX11_toCorner 62 = .ok (.iaload, 1) := by decide +kernel
theorem dX11_toCorner_63 : decode cX11_toCorner 63 = .ok (.iload_n 1, 1) := by decide +kernel
theorem dX11_toCorner_64 : decode cX11_toCorner 64 = .ok (.iconst 1, 1) := by decide +kernel
theorem dX11_toCorner_65 : decode cX11_toCorner 65 = .ok (.if_icmp .le 10, 3) := by decide +kernel
theorem dX11_toCorner_68 : decode cX11_toCorner 68 = .ok (.aload_n 0, 1) := by decide +kernel
theorem dX11_toCorner_69 : decode cX11_toCorner 69 = .ok (.getfield 13, 3) := by decide +kernel
theorem dX11_toCorner_72 : decode cX11_toCorner 72 = .ok (.goto 4, 3) := by decide +kernel
theorem dX11_toCorner_75 : decode cX11_toCorner 75 = .ok (.iconst 0, 1) := by decide +kernel
theorem dX11_toCorner_76 : decode cX11_toCorner 76 = .ok (.isub, 1) := by decide +kernel
theorem dX11_toCorner_77 : decode cX11_toCorner 77 = .ok (.i2l, 1) := by decide +kernel
theorem dX11_toCorner_78 : decode cX11_toCorner 78 = .ok (.invokestatic 247, 3) := by decide +kernel
theorem dX11_toCorner_81 : decode cX11_toCorner 81 = .ok (.lmul, 1) := by decide +kernel
theorem dX11_toCorner_82 : decode cX11_toCorner 82 = .ok (.lstore 5, 2) := by decide +kernel
theorem dX11_toCorner_84 : decode cX11_toCorner 84 = .ok (.lload 5, 2) := by decide +kernel
theorem dX11_toCorner_86 : decode cX11_toCorner 86 = .ok (.lload_n 2, 1) := by decide +kernel
theorem dX11_toCorner_87 : decode cX11_toCorner 87 = .ok (.lcmp, 1) := by decide +kernel
theorem dX11_toCorner_88 : decode cX11_toCorner 88 = .ok (.ifCond .ge 6, 3) := by decide +kernel
theorem dX11_toCorner_91 : decode cX11_toCorner 91 = .ok (.lload 5, 2) := by decide +kernel
theorem dX11_toCorner_93 : decode cX11_toCorner 93 = .ok (.lstore_n 2, 1) := by decide +kernel
theorem dX11_toCorner_94 : decode cX11_toCorner 94 = .ok (.iinc 4 1, 3) := by decide +kernel
theorem dX11_toCorner_97 : decode cX11_toCorner 97 = .ok (.goto (-90), 3) := by decide +kernel
theorem dX11_toCorner_100 : decode cX11_toCorner 100 = .ok (.lload_n 2, 1) := by decide +kernel
theorem dX11_toCorner_101 : decode cX11_toCorner 101 = .ok (.lreturn, 1) := by decide +kernel
theorem dX11_keep_0 : decode cX11_keep 0 = .ok (.iload_n 1, 1) := by decide +kernel
theorem dX11_keep_1 : decode cX11_keep 1 = .ok (.ifCond .lt 30, 3) := by decide +kernel
theorem dX11_keep_4 : decode cX11_keep 4 = .ok (.iload_n 1, 1) := by decide +kernel
theorem dX11_keep_5 : decode cX11_keep 5 = .ok (.iconst 3, 1) := by decide +kernel
theorem dX11_keep_6 : decode cX11_keep 6 = .ok (.if_icmp .gt 25, 3) := by decide +kernel
theorem dX11_keep_9 : decode cX11_keep 9 = .ok (.iload_n 2, 1) := by decide +kernel
theorem dX11_keep_10 : decode cX11_keep 10 = .ok (.ifCond .lt 21, 3) := by decide +kernel
theorem dX11_keep_13 : decode cX11_keep 13 = .ok (.iload_n 2, 1) := by decide +kernel
theorem dX11_keep_14 : decode cX11_keep 14 = .ok (.iconst 3, 1) := by decide +kernel
theorem dX11_keep_15 : decode cX11_keep 15 = .ok (.if_icmp .gt 16, 3) := by decide +kernel
theorem dX11_keep_18 : decode cX11_keep 18 = .ok (.iload_n 1, 1) := by decide +kernel
theorem dX11_keep_19 : decode cX11_keep 19 = .ok (.iload_n 2, 1) := by decide +kernel
theorem dX11_keep_20 : decode cX11_keep 20 = .ok (.if_icmp .eq 11, 3) := by decide +kernel
theorem dX11_keep_23 : decode cX11_keep 23 = .ok (.aload_n 0, 1) := by decide +kernel
theorem dX11_keep_24 : decode cX11_keep 24 = .ok (.iconst 1, 1) := by decide +kernel
theorem dX11_keep_25 : decode cX11_keep 25 = .ok (.invokevirtual 144, 3) := by decide +kernel
theorem dX11_keep_28 : decode cX11_keep 28 = .ok (.ifCond .ne 5, 3) := by decide +kernel
theorem dX11_keep_31 : decode cX11_keep 31 = .ok (.iconst (-1), 1) := by decide +kernel
theorem dX11_keep_32 : decode cX11_keep 32 = .ok (.ireturn, 1) := by decide +kernel
theorem dX11_keep_33 : decode cX11_keep 33 = .ok (.iconst 0, 1) := by decide +kernel
theorem dX11_keep_34 : decode cX11_keep 34 = .ok (.istore_n 3, 1) := by decide +kernel
theorem dX11_keep_35 : decode cX11_keep 35 = .ok (.iload_n 1, 1) := by decide +kernel
theorem dX11_keep_36 : decode cX11_keep 36 = .ok (.istore 4, 2) := by decide +kernel
theorem dX11_keep_38 : decode cX11_keep 38 = .ok (.iload 4, 2) := by decide +kernel
theorem dX11_keep_40 : decode cX11_keep 40 = .ok (.iload_n 2, 1) := by decide +kernel
theorem dX11_keep_41 : decode cX11_keep 41 = .ok (.if_icmp .eq 21, 3) := by decide +kernel
theorem dX11_keep_44 : decode cX11_keep 44 = .ok (.iload_n 3, 1) := by decide +kernel
theorem dX11_keep_45 : decode cX11_keep 45 = .ok (.iconst 1, 1) := by decide +kernel
theorem dX11_keep_46 : decode cX11_keep 46 = .ok (.iload 4, 2) := by decide +kernel
theorem dX11_keep_48 : decode cX11_keep 48 = .ok (.ishl, 1) := by decide +kernel
theorem dX11_keep_49 : decode cX11_keep 49 = .ok (.ior, 1) := by decide +kernel
theorem dX11_keep_50 : decode cX11_keep 50 = .ok (.istore_n 3, 1) := by decide +kernel
theorem dX11_keep_51 : decode cX11_keep 51 = .ok (.iload 4, 2) := by decide +kernel
theorem dX11_keep_53 : decode cX11_keep 53 = .ok (.iconst 1, 1) := by decide +kernel
theorem dX11_keep_54 : decode cX11_keep 54 = .ok (.iadd, 1) := by decide +kernel
theorem dX11_keep_55 : decode cX11_keep 55 = .ok (.iconst 4, 1) := by decide +kernel
theorem dX11_keep_56 : decode cX11_keep 56 = .ok (.irem, 1) := by decide +kernel
theorem dX11_keep_57 : decode cX11_keep 57 = .ok (.istore 4, 2) := by decide +kernel
theorem dX11_keep_59 : decode cX11_keep 59 = .ok (.goto (-21), 3) := by decide +kernel
theorem dX11_keep_62 : decode cX11_keep 62 = .ok (.iconst 0, 1) := by decide +kernel
theorem dX11_keep_63 : decode cX11_keep 63 = .ok (.istore 4, 2) := by decide +kernel
theorem dX11_keep_65 : decode cX11_keep 65 = .ok (.iload 4, 2) := by decide +kernel
theorem dX11_keep_67 : decode cX11_keep 67 = .ok (.bipush 24, 2) := by decide +kernel
theorem dX11_keep_69 : decode cX11_keep 69 = .ok (.if_icmp .ge 60, 3) := by decide +kernel
theorem dX11_keep_72 : decode cX11_keep 72 = .ok (.aload_n 0, 1) := by decide +kernel
theorem dX11_keep_73 : decode cX11_keep 73 = .ok (.getfield 106, 3) := by decide +kernel
theorem dX11_keep_76 : decode cX11_keep 76 = .ok (.iload 4, 2) := by decide +kernel
theorem dX11_keep_78 : decode cX11_keep 78 = .ok (.aload_n 0, 1) := by decide +kernel
theorem dX11_keep_79 : decode cX11_keep 79 = .ok (.iload 4, 2) := by decide +kernel
theorem dX11_keep_81 : decode cX11_keep 81 = .ok (.invokevirtual 148, 3) := by decide +kernel
theorem dX11_keep_84 : decode cX11_keep 84 = .ok (.ifCond .ne 7, 3) := by decide +kernel
theorem dX11_keep_87 : decode cX11_keep 87 = .ok (.iconst 1, 1) := by decide +kernel
theorem dX11_keep_88 : decode cX11_keep 88 = .ok (.goto 4, 3) := by decide +kernel
theorem dX11_keep_91 : decode cX11_keep 91 = .ok (.iconst 0, 1) := by decide +kernel
theorem dX11_keep_92 : decode cX11_keep 92 = .ok (.bastore, 1) := by decide +kernel
theorem dX11_keep_93 : decode cX11_keep 93 = .ok (.aload_n 0, 1) := by decide +kernel
theorem dX11_keep_94 : decode cX11_keep 94 = .ok (.getfield 103, 3) := by decide +kernel
theorem dX11_keep_97 : decode cX11_keep 97 = .ok (.iload 4, 2) := by decide +kernel
theorem dX11_keep_99 : decode cX11_keep 99 = .ok (.aload_n 0, 1) := by decide +kernel
theorem dX11_keep_100 : decode cX11_keep 100 = .ok (.getfield 106, 3) := by decide +kernel
theorem dX11_keep_103 : decode cX11_keep 103 = .ok (.iload 4, 2) := by decide +kernel
theorem dX11_keep_105 : decode cX11_keep 105 = .ok (.baload, 1) := by decide +kernel
theorem dX11_keep_106 : decode cX11_keep 106 = .ok (.ifCond .eq 9, 3) := by decide +kernel
theorem dX11_keep_109 : decode cX11_keep 109 = .ok (.ldc2_w 344, 3) := by decide +kernel
theorem dX11_keep_112 : decode cX11_keep 112 = .ok (.goto 10, 3) := by decide +kernel
theorem dX11_keep_115 : decode cX11_keep 115 = .ok (.aload_n 0, 1) := by decide +kernel
theorem dX11_keep_116 : decode cX11_keep 116 = .ok (.iload 4, 2) := by decide +kernel
theorem dX11_keep_118 : decode cX11_keep 118 = .ok (.iload_n 3, 1) := by decide +kernel
theorem dX11_keep_119 : decode cX11_keep 119 = .ok (.invokevirtual 346, 3) := by decide +kernel
theorem dX11_keep_122 : decode cX11_keep 122 = .ok (.lastore, 1) := by decide +kernel
theorem dX11_keep_123 : decode cX11_keep 123 = .ok (.iinc 4 1, 3) := by decide +kernel
theorem dX11_keep_126 : decode cX11_keep 126 = .ok (.goto (-61), 3) := by decide +kernel
theorem dX11_keep_129 : decode cX11_keep 129 = .ok (.aload_n 0, 1) := by decide +kernel
theorem dX11_keep_130 : decode cX11_keep 130 = .ok (.iload_n 1, 1) := by decide +kernel
theorem dX11_keep_131 : decode cX11_keep 131 = .ok (.invokevirtual 349, 3) := by decide +kernel
theorem dX11_keep_134 : decode cX11_keep 134 = .ok (.aload_n 0, 1) := by decide +kernel
theorem dX11_keep_135 : decode cX11_keep 135 = .ok (.iload_n 2, 1) := by decide +kernel
theorem dX11_keep_136 : decode cX11_keep 136 = .ok (.invokevirtual 349, 3) := by decide +kernel
theorem dX11_keep_139 : decode cX11_keep 139 = .ok (.lcmp, 1) := by decide +kernel
theorem dX11_keep_140 : decode cX11_keep 140 = .ok (.ifCond .ge 11, 3) := by decide +kernel
theorem dX11_keep_143 : decode cX11_keep 143 = .ok (.aload_n 0, 1) := by decide +kernel
theorem dX11_keep_144 : decode cX11_keep 144 = .ok (.iload_n 1, 1) := by decide +kernel
theorem dX11_keep_145 : decode cX11_keep 145 = .ok (.invokevirtual 349, 3) := by decide +kernel
theorem dX11_keep_148 : decode cX11_keep 148 = .ok (.goto 8, 3) := by decide +kernel
theorem dX11_keep_151 : decode cX11_keep 151 = .ok (.aload_n 0, 1) := by decide +kernel
theorem dX11_keep_152 : decode cX11_keep 152 = .ok (.iload_n 2, 1) := by decide +kernel
theorem dX11_keep_153 : decode cX11_keep 153 = .ok (.invokevirtual 349, 3) := by decide +kernel
theorem dX11_keep_156 : decode cX11_keep 156 = .ok (.lstore 4, 2) := by decide +kernel
theorem dX11_keep_158 : decode cX11_keep 158 = .ok (.iconst 1, 1) := by decide +kernel
theorem dX11_keep_159 : decode cX11_keep 159 = .ok (.istore 6, 2) := by decide +kernel
theorem dX11_keep_161 : decode cX11_keep 161 = .ok (.iload 6, 2) := by decide +kernel
theorem dX11_keep_163 : decode cX11_keep 163 = .ok (.ifCond .eq 233, 3) := by decide +kernel
theorem dX11_keep_166 : decode cX11_keep 166 = .ok (.iconst (-1), 1) := by decide +kernel
theorem dX11_keep_167 : decode cX11_keep 167 = .ok (.istore 7, 2) := by decide +kernel
theorem dX11_keep_169 : decode cX11_keep 169 = .ok (.iconst 0, 1) := by decide +kernel
theorem dX11_keep_170 : decode cX11_keep 170 = .ok (.istore 8, 2) := by decide +kernel
theorem dX11_keep_172 : decode cX11_keep 172 = .ok (.iload 8, 2) := by decide +kernel
theorem dX11_keep_174 : decode cX11_keep 174 = .ok (.bipush 24, 2) := by decide +kernel
theorem dX11_keep_176 : decode cX11_keep 176 = .ok (.if_icmp .ge 47, 3) := by decide +kernel
theorem dX11_keep_179 : decode cX11_keep 179 = .ok (.aload_n 0, 1) := by decide +kernel
theorem dX11_keep_180 : decode cX11_keep 180 = .ok (.getfield 106, 3) := by decide +kernel
theorem dX11_keep_183 : decode cX11_keep 183 = .ok (.iload 8, 2) := by decide +kernel
theorem dX11_keep_185 : decode cX11_keep 185 = .ok (.baload, 1) := by decide +kernel
theorem dX11_keep_186 : decode cX11_keep 186 = .ok (.ifCond .ne 31, 3) := by decide +kernel
theorem dX11_keep_189 : decode cX11_keep 189 = .ok (.iload 7, 2) := by decide +kernel
theorem dX11_keep_191 : decode cX11_keep 191 = .ok (.iconst (-1), 1) := by decide +kernel
theorem dX11_keep_192 : decode cX11_keep 192 = .ok (.if_icmp .eq 21, 3) := by decide +kernel
theorem dX11_keep_195 : decode cX11_keep 195 = .ok (.aload_n 0, 1) := by decide +kernel
theorem dX11_keep_196 : decode cX11_keep 196 = .ok (.getfield 103, 3) := by decide +kernel
theorem dX11_keep_199 : decode cX11_keep 199 = .ok (.iload 8, 2) := by decide +kernel
theorem dX11_keep_201 : decode cX11_keep 201 = .ok (.laload, 1) := by decide +kernel
theorem dX11_keep_202 : decode cX11_keep 202 = .ok (.aload_n 0, 1) := by decide +kernel
theorem dX11_keep_203 : decode cX11_keep 203 = .ok (.getfield 103, 3) := by decide +kernel
theorem dX11_keep_206 : decode cX11_keep 206 = .ok (.iload 7, 2) := by decide +kernel
theorem dX11_keep_208 : decode cX11_keep 208 = .ok (.laload, 1) := by decide +kernel
theorem dX11_keep_209 : decode cX11_keep 209 = .ok (.lcmp, 1) := by decide +kernel
theorem dX11_keep_210 : decode cX11_keep 210 = .ok (.ifCond .ge 7, 3) := by decide +kernel
theorem dX11_keep_213 : decode cX11_keep 213 = .ok (.iload 8, 2) := by decide +kernel
theorem dX11_keep_215 : decode cX11_keep 215 = .ok (.istore 7, 2) := by decide +kernel
theorem dX11_keep_217 : decode cX11_keep 217 = .ok (.iinc 8 1, 3) := by decide +kernel
theorem dX11_keep_220 : decode cX11_keep 220 = .ok (.goto (-48), 3) := by decide +kernel
theorem dX11_keep_223 : decode cX11_keep 223 = .ok (.iload 7, 2) := by decide +kernel
theorem dX11_keep_225 : decode cX11_keep 225 = .ok (.iconst (-1), 1) := by decide +kernel
theorem dX11_keep_226 : decode cX11_keep 226 = .ok (.if_icmp .eq 7, 3) := by decide +kernel
theorem dX11_keep_229 : decode cX11_keep 229 = .ok (.iconst 1, 1) := by decide +kernel
theorem dX11_keep_230 : decode cX11_keep 230 = .ok (.goto 4, 3) := by decide +kernel
theorem dX11_keep_233 : decode cX11_keep 233 = .ok (.iconst 0, 1) := by decide +kernel
theorem dX11_keep_234 : decode cX11_keep 234 = .ok (.istore 6, 2) := by decide +kernel
theorem dX11_keep_236 : decode cX11_keep 236 = .ok (.iload 6, 2) := by decide +kernel
theorem dX11_keep_238 : decode cX11_keep 238 = .ok (.ifCond .ne 6, 3) := by decide +kernel
theorem dX11_keep_241 : decode cX11_keep 241 = .ok (.goto (-80), 3) := by decide +kernel
theorem dX11_keep_244 : decode cX11_keep 244 = .ok (.aload_n 0, 1) := by decide +kernel
theorem dX11_keep_245 : decode cX11_keep 245 = .ok (.getfield 106, 3) := by decide +kernel
theorem dX11_keep_248 : decode cX11_keep 248 = .ok (.iload 7, 2) := by decide +kernel
theorem dX11_keep_250 : decode cX11_keep 250 = .ok (.iconst 1, 1) := by decide +kernel
theorem dX11_keep_251 : decode cX11_keep 251 = .ok (.bastore, 1) := by decide +kernel
theorem dX11_keep_252 : decode cX11_keep 252 = .ok (.aload_n 0, 1) := by decide +kernel
theorem dX11_keep_253 : decode cX11_keep 253 = .ok (.iload 7, 2) := by decide +kernel
theorem dX11_keep_255 : decode cX11_keep 255 = .ok (.bipush 15, 2) := by decide +kernel
theorem dX11_keep_257 : decode cX11_keep 257 = .ok (.iload_n 3, 1) := by decide +kernel
theorem dX11_keep_258 : decode cX11_keep 258 = .ok (.isub, 1) := by decide +kernel
theorem dX11_keep_259 : decode cX11_keep 259 = .ok (.invokevirtual 346, 3) := by decide +kernel
theorem dX11_keep_262 : decode cX11_keep 262 = .ok (.lstore 8, 2) := by decide +kernel
theorem dX11_keep_264 : decode cX11_keep 264 = .ok (.lload 8, 2) := by decide +kernel
theorem dX11_keep_266 : decode cX11_keep 266 = .ok (.aload_n 0, 1) := by decide +kernel
theorem dX11_keep_267 : decode cX11_keep 267 = .ok (.getfield 103, 3) := by decide +kernel
theorem dX11_keep_270 : decode cX11_keep 270 = .ok (.iload 7, 2) := by decide +kernel
theorem dX11_keep_272 : decode cX11_keep 272 = .ok (.laload, 1) := by decide +kernel
theorem dX11_keep_273 : decode cX11_keep 273 = .ok (.lcmp, 1) := by decide +kernel
theorem dX11_keep_274 : decode cX11_keep 274 = .ok (.ifCond .le 8, 3) := by decide +kernel
theorem dX11_keep_277 : decode cX11_keep 277 = .ok (.lload 8, 2) := by decide +kernel
theorem dX11_keep_279 : decode cX11_keep 279 = .ok (.goto 10, 3) := by decide +kernel
theorem dX11_keep_282 : decode cX11_keep 282 = .ok (.aload_n 0, 1) := by decide +kernel
theorem dX11_keep_283 : decode cX11_keep 283 = .ok (.getfield 103, 3) := by decide +kernel
theorem dX11_keep_286 : decode cX11_keep 286 = .ok (.iload 7, 2) := by decide +kernel
theorem dX11_keep_288 : decode cX11_keep 288 = .ok (.laload, 1) := by decide +kernel
theorem dX11_keep_289 : decode cX11_keep 289 = .ok (.lstore 10, 2) := by decide +kernel
theorem dX11_keep_291 : decode cX11_keep 291 = .ok (.lload 10, 2) := by decide +kernel
theorem dX11_keep_293 : decode cX11_keep 293 = .ok (.lload 4, 2) := by decide +kernel
theorem dX11_keep_295 : decode cX11_keep 295 = .ok (.lcmp, 1) := by decide +kernel
theorem dX11_keep_296 : decode cX11_keep 296 = .ok (.ifCond .ge 7, 3) := by decide +kernel
theorem dX11_keep_299 : decode cX11_keep 299 = .ok (.lload 10, 2) := by decide +kernel
theorem dX11_keep_301 : decode cX11_keep 301 = .ok (.lstore 4, 2) := by decide +kernel
theorem dX11_keep_303 : decode cX11_keep 303 = .ok (.iconst 0, 1) := by decide +kernel
theorem dX11_keep_304 : decode cX11_keep 304 = .ok (.istore 12, 2) := by decide +kernel
theorem dX11_keep_306 : decode cX11_keep 306 = .ok (.iload 12, 2) := by decide +kernel
theorem dX11_keep_308 : decode cX11_keep 308 = .ok (.bipush 24, 2) := by decide +kernel
theorem dX11_keep_310 : decode cX11_keep 310 = .ok (.if_icmp .ge 83, 3) := by decide +kernel
theorem dX11_keep_313 : decode cX11_keep 313 = .ok (.aload_n 0, 1) := by decide +kernel
theorem dX11_keep_314 : decode cX11_keep 314 = .ok (.getfield 106, 3) := by decide +kernel
theorem dX11_keep_317 : decode cX11_keep 317 = .ok (.iload 12, 2) := by decide +kernel
theorem dX11_keep_319 : decode cX11_keep 319 = .ok (.baload, 1) := by decide +kernel
theorem dX11_keep_320 : decode cX11_keep 320 = .ok (.ifCond .eq 6, 3) := by decide +kernel
theorem dX11_keep_323 : decode cX11_keep 323 = .ok (.goto 64, 3) := by decide +kernel
theorem dX11_keep_326 : decode cX11_keep 326 = .ok (.aload_n 0, 1) := by decide +kernel
theorem dX11_keep_327 : decode cX11_keep 327 = .ok (.iload 7, 2) := by decide +kernel
theorem dX11_keep_329 : decode cX11_keep 329 = .ok (.iload 12, 2) := by decide +kernel
theorem dX11_keep_331 : decode cX11_keep 331 = .ok (.invokevirtual 276, 3) := by decide +kernel
theorem dX11_keep_334 : decode cX11_keep 334 = .ok (.aload_n 0, 1) := by decide +kernel
theorem dX11_keep_335 : decode cX11_keep 335 = .ok (.getfield 103, 3) := by decide +kernel
theorem dX11_keep_338 : decode cX11_keep 338 = .ok (.iload 7, 2) := by decide +kernel
theorem dX11_keep_340 : decode cX11_keep 340 = .ok (.laload, 1) := by decide +kernel
theorem dX11_keep_341 : decode cX11_keep 341 = .ok (.lcmp, 1) := by decide +kernel
theorem dX11_keep_342 : decode cX11_keep 342 = .ok (.ifCond .le 14, 3) := by decide +kernel
theorem dX11_keep_345 : decode cX11_keep 345 = .ok (.aload_n 0, 1) := by decide +kernel
theorem dX11_keep_346 : decode cX11_keep 346 = .ok (.iload 7, 2) := by decide +kernel
theorem dX11_keep_348 : decode cX11_keep 348 = .ok (.iload 12, 2) := by decide +kernel
theorem dX11_keep_350 : decode cX11_keep 350 = .ok (.invokevirtual 276, 3) := by decide +kernel
theorem dX11_keep_353 : decode cX11_keep 353 = .ok (.goto 10, 3) := by decide +kernel
theorem dX11_keep_356 : decode cX11_keep 356 = .ok (.aload_n 0, 1) := by decide +kernel
theorem dX11_keep_357 : decode cX11_keep 357 = .ok (.getfield 103, 3) := by decide +kernel
theorem dX11_keep_360 : decode cX11_keep 360 = .ok (.iload 7, 2) := by decide +kernel
theorem dX11_keep_362 : decode cX11_keep 362 = .ok (.laload, 1) := by decide +kernel
theorem dX11_keep_363 : decode cX11_keep 363 = .ok (.lstore 13, 2) := by decide +kernel
theorem dX11_keep_365 : decode cX11_keep 365 = .ok (.lload 13, 2) := by decide +kernel
theorem dX11_keep_367 : decode cX11_keep 367 = .ok (.aload_n 0, 1) := by decide +kernel
theorem dX11_keep_368 : decode cX11_keep 368 = .ok (.getfield 103, 3) := by decide +kernel
theorem dX11_keep_371 : decode cX11_keep 371 = .ok (.iload 12, 2) := by decide +kernel
theorem dX11_keep_373 : decode cX11_keep 373 = .ok (.laload, 1) := by decide +kernel
theorem dX11_keep_374 : decode cX11_keep 374 = .ok (.lcmp, 1) := by decide +kernel
theorem dX11_keep_375 : decode cX11_keep 375 = .ok (.ifCond .ge 12, 3) := by decide +kernel
theorem dX11_keep_378 : decode cX11_keep 378 = .ok (.aload_n 0, 1) := by decide +kernel
theorem dX11_keep_379 : decode cX11_keep 379 = .ok (.getfield 103, 3) := by decide +kernel
theorem dX11_keep_382 : decode cX11_keep 382 = .ok (.iload 12, 2) := by decide +kernel
theorem dX11_keep_384 : decode cX11_keep 384 = .ok (.lload 13, 2) := by decide +kernel
theorem dX11_keep_386 : decode cX11_keep 386 = .ok (.lastore, 1) := by decide +kernel
theorem dX11_keep_387 : decode cX11_keep 387 = .ok (.iinc 12 1, 3) := by decide +kernel
theorem dX11_keep_390 : decode cX11_keep 390 = .ok (.goto (-84), 3) := by decide +kernel
theorem dX11_keep_393 : decode cX11_keep 393 = .ok (.goto (-232), 3) := by decide +kernel
theorem dX11_keep_396 : decode cX11_keep 396 = .ok (.lload 4, 2) := by decide +kernel
theorem dX11_keep_398 : decode cX11_keep 398 = .ok (.l2i, 1) := by decide +kernel
theorem dX11_keep_399 : decode cX11_keep 399 = .ok (.ireturn, 1) := by decide +kernel
theorem dX11_isSheet_0 : decode cX11_isSheet 0 = .ok (.iload_n 1, 1) := by decide +kernel
theorem dX11_isSheet_1 : decode cX11_isSheet 1 = .ok (.ifCond .lt 13, 3) := by decide +kernel
theorem dX11_isSheet_4 : decode cX11_isSheet 4 = .ok (.iload_n 1, 1) := by decide +kernel
theorem dX11_isSheet_5 : decode cX11_isSheet 5 = .ok (.bipush 8, 2) := by decide +kernel
theorem dX11_isSheet_7 : decode cX11_isSheet 7 = .ok (.if_icmp .ge 7, 3) := by decide +kernel
theorem dX11_isSheet_10 : decode cX11_isSheet 10 = .ok (.iconst 1, 1) := by decide +kernel
theorem dX11_isSheet_11 : decode cX11_isSheet 11 = .ok (.goto 4, 3) := by decide +kernel
theorem dX11_isSheet_14 : decode cX11_isSheet 14 = .ok (.iconst 0, 1) := by decide +kernel
theorem dX11_isSheet_15 : decode cX11_isSheet 15 = .ok (.ireturn, 1) := by decide +kernel
theorem dX11_sheet_0 : decode cX11_sheet 0 = .ok (.aload_n 0, 1) := by decide +kernel
theorem dX11_sheet_1 : decode cX11_sheet 1 = .ok (.iload_n 1, 1) := by decide +kernel
theorem dX11_sheet_2 : decode cX11_sheet 2 = .ok (.invokevirtual 352, 3) := by decide +kernel
theorem dX11_sheet_5 : decode cX11_sheet 5 = .ok (.ifCond .eq 14, 3) := by decide +kernel
theorem dX11_sheet_8 : decode cX11_sheet 8 = .ok (.iload_n 2, 1) := by decide +kernel
theorem dX11_sheet_9 : decode cX11_sheet 9 = .ok (.iconst (-1), 1) := by decide +kernel
theorem dX11_sheet_10 : decode cX11_sheet 10 = .ok (.if_icmp .lt 9, 3) := by decide +kernel
theorem dX11_sheet_13 : decode cX11_sheet 13 = .ok (.iload_n 2, 1) := by decide +kernel
theorem dX11_sheet_14 : decode cX11_sheet 14 = .ok (.bipush 8, 2) := by decide +kernel
theorem dX11_sheet_16 : decode cX11_sheet 16 = .ok (.if_icmp .le 5, 3) := by decide +kernel
theorem dX11_sheet_19 : decode cX11_sheet 19 = .ok (.iconst 0, 1) := by decide +kernel
theorem dX11_sheet_20 : decode cX11_sheet 20 = .ok (.ireturn, 1) := by decide +kernel
theorem dX11_sheet_21 : decode cX11_sheet 21 = .ok (.aload_n 0, 1) := by decide +kernel
theorem dX11_sheet_22 : decode cX11_sheet 22 = .ok (.getfield 109, 3) := by decide +kernel
theorem dX11_sheet_25 : decode cX11_sheet 25 = .ok (.iload_n 1, 1) := by decide +kernel
theorem dX11_sheet_26 : decode cX11_sheet 26 = .ok (.iload_n 2, 1) := by decide +kernel
theorem dX11_sheet_27 : decode cX11_sheet 27 = .ok (.iastore, 1) := by decide +kernel
theorem dX11_sheet_28 : decode cX11_sheet 28 = .ok (.iconst 0, 1) := by decide +kernel
theorem dX11_sheet_29 : decode cX11_sheet 29 = .ok (.istore_n 3, 1) := by decide +kernel
theorem dX11_sheet_30 : decode cX11_sheet 30 = .ok (.iload_n 3, 1) := by decide +kernel
theorem dX11_sheet_31 : decode cX11_sheet 31 = .ok (.bipush 32, 2) := by decide +kernel
theorem dX11_sheet_33 : decode cX11_sheet 33 = .ok (.if_icmp .ge 21, 3) := by decide +kernel
theorem dX11_sheet_36 : decode cX11_sheet 36 = .ok (.aload_n 0, 1) := by decide +kernel
theorem dX11_sheet_37 : decode cX11_sheet 37 = .ok (.getfield 112, 3) := by decide +kernel
theorem dX11_sheet_40 : decode cX11_sheet 40 = .ok (.bipush 32, 2) := by decide +kernel
theorem dX11_sheet_42 : decode cX11_sheet 42 = .ok (.iload_n 1, 1) := by decide +kernel
theorem dX11_sheet_43 : decode cX11_sheet 43 = .ok (.imul, 1) := by decide +kernel
theorem dX11_sheet_44 : decode cX11_sheet 44 = .ok (.iload_n 3, 1) := by decide +kernel
theorem dX11_sheet_45 : decode cX11_sheet 45 = .ok (.iadd, 1) := by decide +kernel
theorem dX11_sheet_46 : decode cX11_sheet 46 = .ok (.iconst 0, 1) := by decide +kernel
theorem dX11_sheet_47 : decode cX11_sheet 47 = .ok (.iastore, 1) := by decide +kernel
theorem dX11_sheet_48 : decode cX11_sheet 48 = .ok (.iinc 3 1, 3) := by decide +kernel
theorem dX11_sheet_51 : decode cX11_sheet 51 = .ok (.goto (-21), 3) := by decide +kernel
theorem dX11_sheet_54 : decode cX11_sheet 54 = .ok (.iconst 1, 1) := by decide +kernel
theorem dX11_sheet_55 : decode cX11_sheet 55 = .ok (.ireturn, 1) := by decide +kernel
theorem dX11_line__0 : decode cX11_line_ 0 = .ok (.aload_n 0, 1) := by decide +kernel
theorem dX11_line__1 : decode cX11_line_ 1 = .ok (.iload_n 1, 1) := by decide +kernel
theorem dX11_line__2 : decode cX11_line_ 2 = .ok (.invokevirtual 352, 3) := by decide +kernel
theorem dX11_line__5 : decode cX11_line_ 5 = .ok (.ifCond .eq 17, 3) := by decide +kernel
theorem dX11_line__8 : decode cX11_line_ 8 = .ok (.iload_n 2, 1) := by decide +kernel
theorem dX11_line__9 : decode cX11_line_ 9 = .ok (.ifCond .lt 13, 3) := by decide +kernel
theorem dX11_line__12 : decode cX11_line_ 12 = .ok (.iload_n 2, 1) := by decide +kernel
theorem dX11_line__13 : decode cX11_line_ 13 = .ok (.aload_n 0, 1) := by decide +kernel
theorem dX11_line__14 : decode cX11_line_ 14 = .ok (.getfield 109, 3) := by decide +kernel
theorem dX11_line__17 : decode cX11_line_ 17 = .ok (.iload_n 1, 1) := by decide +kernel
theorem dX11_line__18 : decode cX11_line_ 18 = .ok (.iaload, 1) := by decide +kernel
theorem dX11_line__19 : decode cX11_line_ 19 = .ok (.if_icmp .lt 5, 3) := by decide +kernel
theorem dX11_line__22 : decode cX11_line_ 22 = .ok (.iconst 0, 1) := by decide +kernel
theorem dX11_line__23 : decode cX11_line_ 23 = .ok (.ireturn, 1) := by decide +kernel
theorem dX11_line__24 : decode cX11_line_ 24 = .ok (.bipush 32, 2) := by decide +kernel
theorem dX11_line__26 : decode cX11_line_ 26 = .ok (.iload_n 1, 1) := by decide +kernel
theorem dX11_line__27 : decode cX11_line_ 27 = .ok (.imul, 1) := by decide +kernel
theorem dX11_line__28 : decode cX11_line_ 28 = .ok (.iconst 4, 1) := by decide +kernel
theorem dX11_line__29 : decode cX11_line_ 29 = .ok (.iload_n 2, 1) := by decide +kernel
theorem dX11_line__30 : decode cX11_line_ 30 = .ok (.imul, 1) := by decide +kernel
theorem dX11_line__31 : decode cX11_line_ 31 = .ok (.iadd, 1) := by decide +kernel
theorem dX11_line__32 : decode cX11_line_ 32 = .ok (.istore 7, 2) := by decide +kernel
theorem dX11_line__34 : decode cX11_line_ 34 = .ok (.aload_n 0, 1) := by decide +kernel
theorem dX11_line__35 : decode cX11_line_ 35 = .ok (.getfield 112, 3) := by decide +kernel
theorem dX11_line__38 : decode cX11_line_ 38 = .ok (.iload 7, 2) := by decide +kernel
theorem dX11_line__40 : decode cX11_line_ 40 = .ok (.iload_n 3, 1) := by decide +kernel
theorem dX11_line__41 : decode cX11_line_ 41 = .ok (.iastore, 1) := by decide +kernel
theorem dX11_line__42 : decode cX11_line_ 42 = .ok (.aload_n 0, 1) := by decide +kernel
theorem dX11_line__43 : decode cX11_line_ 43 = .ok (.getfield 112, 3) := by decide +kernel
theorem dX11_line__46 : decode cX11_line_ 46 = .ok (.iload 7, 2) := by decide +kernel
theorem dX11_line__48 : decode cX11_line_ 48 = .ok (.iconst 1, 1) := by decide +kernel
theorem dX11_line__49 : decode cX11_line_ 49 = .ok (.iadd, 1) := by decide +kernel
theorem dX11_line__50 : decode cX11_line_ 50 = .ok (.iload 4, 2) := by decide +kernel
theorem dX11_line__52 : decode cX11_line_ 52 = .ok (.iastore, 1) := by decide +kernel
theorem dX11_line__53 : decode cX11_line_ 53 = .ok (.aload_n 0, 1) := by decide +kernel
theorem dX11_line__54 : decode cX11_line_ 54 = .ok (.getfield 112, 3) := by decide +kernel
theorem dX11_line__57 : decode cX11_line_ 57 = .ok (.iload 7, 2) := by decide +kernel
theorem dX11_line__59 : decode cX11_line_ 59 = .ok (.iconst 2, 1) := by decide +kernel
theorem dX11_line__60 : decode cX11_line_ 60 = .ok (.iadd, 1) := by decide +kernel
theorem dX11_line__61 : decode cX11_line_ 61 = .ok (.iload 5, 2) := by decide +kernel
theorem dX11_line__63 : decode cX11_line_ 63 = .ok (.iastore, 1) := by decide +kernel
theorem dX11_line__64 : decode cX11_line_ 64 = .ok (.aload_n 0, 1) := by decide +kernel
theorem dX11_line__65 : decode cX11_line_ 65 = .ok (.getfield 112, 3) := by decide +kernel
theorem dX11_line__68 : decode cX11_line_ 68 = .ok (.iload 7, 2) := by decide +kernel
theorem dX11_line__70 : decode cX11_line_ 70 = .ok (.iconst 3, 1) := by decide +kernel
theorem dX11_line__71 : decode cX11_line_ 71 = .ok (.iadd, 1) := by decide +kernel
theorem dX11_line__72 : decode cX11_line_ 72 = .ok (.iload 6, 2) := by decide +kernel
theorem dX11_line__74 : decode cX11_line_ 74 = .ok (.iastore, 1) := by decide +kernel
theorem dX11_line__75 : decode cX11_line_ 75 = .ok (.iconst 1, 1) := by decide +kernel
theorem dX11_line__76 : decode cX11_line_ 76 = .ok (.ireturn, 1) := by decide +kernel
theorem dX11_lay_0 : decode cX11_lay 0 = .ok (.aload_n 0, 1) := by decide +kernel
theorem dX11_lay_1 : decode cX11_lay 1 = .ok (.iload_n 1, 1) := by decide +kernel
theorem dX11_lay_2 : decode cX11_lay 2 = .ok (.invokevirtual 352, 3) := by decide +kernel
theorem dX11_lay_5 : decode cX11_lay 5 = .ok (.ifCond .eq 13, 3) := by decide +kernel
theorem dX11_lay_8 : decode cX11_lay 8 = .ok (.aload_n 0, 1) := by decide +kernel
theorem dX11_lay_9 : decode cX11_lay 9 = .ok (.getfield 109, 3) := by decide +kernel
theorem dX11_lay_12 : decode cX11_lay 12 = .ok (.iload_n 1, 1) := by decide +kernel
theorem dX11_lay_13 : decode cX11_lay 13 = .ok (.iaload, 1) := by decide +kernel
theorem dX11_lay_14 : decode cX11_lay 14 = .ok (.iconst (-1), 1) := by decide +kernel
theorem dX11_lay_15 : decode cX11_lay 15 = .ok (.if_icmp .ne 5, 3) := by decide +kernel
theorem dX11_lay_18 : decode cX11_lay 18 = .ok (.iconst (-1), 1) := by decide +kernel
theorem dX11_lay_19 : decode cX11_lay 19 = .ok (.ireturn, 1) := by decide +kernel
theorem dX11_lay_20 : decode cX11_lay 20 = .ok (.aload_n 0, 1) := by decide +kernel
theorem dX11_lay_21 : decode cX11_lay 21 = .ok (.getfield 109, 3) := by decide +kernel
theorem dX11_lay_24 : decode cX11_lay 24 = .ok (.iload_n 1, 1) := by decide +kernel
theorem dX11_lay_25 : decode cX11_lay 25 = .ok (.iaload, 1) := by decide +kernel
theorem dX11_lay_26 : decode cX11_lay 26 = .ok (.istore_n 2, 1) := by decide +kernel
theorem dX11_lay_27 : decode cX11_lay 27 = .ok (.iconst 0, 1) := by decide +kernel
theorem dX11_lay_28 : decode cX11_lay 28 = .ok (.istore_n 3, 1) := by decide +kernel
theorem dX11_lay_29 : decode cX11_lay 29 = .ok (.iload_n 3, 1) := by decide +kernel
theorem dX11_lay_30 : decode cX11_lay 30 = .ok (.iload_n 2, 1) := by decide +kernel
theorem dX11_lay_31 : decode cX11_lay 31 = .ok (.if_icmp .ge 108, 3) := by decide +kernel
theorem dX11_lay_34 : decode cX11_lay 34 = .ok (.bipush 32, 2) := by decide +kernel
theorem dX11_lay_36 : decode cX11_lay 36 = .ok (.iload_n 1, 1) := by decide +kernel
theorem dX11_lay_37 : decode cX11_lay 37 = .ok (.imul, 1) := by decide +kernel
theorem dX11_lay_38 : decode cX11_lay 38 = .ok (.iconst 4, 1) := by decide +kernel
theorem dX11_lay_39 : decode cX11_lay 39 = .ok (.iload_n 3, 1) := by decide +kernel
theorem dX11_lay_40 : decode cX11_lay 40 = .ok (.imul, 1) := by decide +kernel
theorem dX11_lay_41 : decode cX11_lay 41 = .ok (.iadd, 1) := by decide +kernel
theorem dX11_lay_42 : decode cX11_lay 42 = .ok (.istore 4, 2) := by decide +kernel
theorem dX11_lay_44 : decode cX11_lay 44 = .ok (.aload_n 0, 1) := by decide +kernel
theorem dX11_lay_45 : decode cX11_lay 45 = .ok (.getfield 115, 3) := by decide +kernel
theorem dX11_lay_48 : decode cX11_lay 48 = .ok (.iload_n 3, 1) := by decide +kernel
theorem dX11_lay_49 : decode cX11_lay 49 = .ok (.aload_n 0, 1) := by decide +kernel
theorem dX11_lay_50 : decode cX11_lay 50 = .ok (.aload_n 0, 1) := by decide +kernel
theorem dX11_lay_51 : decode cX11_lay 51 = .ok (.getfield 112, 3) := by decide +kernel
theorem dX11_lay_54 : decode cX11_lay 54 = .ok (.iload 4, 2) := by decide +kernel
theorem dX11_lay_56 : decode cX11_lay 56 = .ok (.iaload, 1) := by decide +kernel
theorem dX11_lay_57 : decode cX11_lay 57 = .ok (.aload_n 0, 1) := by decide +kernel
theorem dX11_lay_58 : decode cX11_lay 58 = .ok (.getfield 112, 3) := by decide +kernel
theorem dX11_lay_61 : decode cX11_lay 61 = .ok (.iload 4, 2) := by decide +kernel
theorem dX11_lay_63 : decode cX11_lay 63 = .ok (.iconst 1, 1) := by decide +kernel
theorem dX11_lay_64 : decode cX11_lay 64 = .ok (.iadd, 1) := by decide +kernel
theorem dX11_lay_65 : decode cX11_lay 65 = .ok (.iaload, 1) := by decide +kernel
theorem dX11_lay_66 : decode cX11_lay 66 = .ok (.aload_n 0, 1) := by decide +kernel
theorem dX11_lay_67 : decode cX11_lay 67 = .ok (.getfield 112, 3) := by decide +kernel
theorem dX11_lay_70 : decode cX11_lay 70 = .ok (.iload 4, 2) := by decide +kernel
theorem dX11_lay_72 : decode cX11_lay 72 = .ok (.iconst 2, 1) := by decide +kernel
theorem dX11_lay_73 : decode cX11_lay 73 = .ok (.iadd, 1) := by decide +kernel
theorem dX11_lay_74 : decode cX11_lay 74 = .ok (.iaload, 1) := by decide +kernel
theorem dX11_lay_75 : decode cX11_lay 75 = .ok (.aload_n 0, 1) := by decide +kernel
theorem dX11_lay_76 : decode cX11_lay 76 = .ok (.getfield 112, 3) := by decide +kernel
theorem dX11_lay_79 : decode cX11_lay 79 = .ok (.iload 4, 2) := by decide +kernel
theorem dX11_lay_81 : decode cX11_lay 81 = .ok (.iconst 3, 1) := by decide +kernel
theorem dX11_lay_82 : decode cX11_lay 82 = .ok (.iadd, 1) := by decide +kernel
theorem dX11_lay_83 : decode cX11_lay 83 = .ok (.iaload, 1) := by decide +kernel
theorem dX11_lay_84 : decode cX11_lay 84 = .ok (.invokevirtual 140, 3) := by decide +kernel
theorem dX11_lay_87 : decode cX11_lay 87 = .ok (.iastore, 1) := by decide +kernel
theorem dX11_lay_88 : decode cX11_lay 88 = .ok (.aload_n 0, 1) := by decide +kernel
theorem dX11_lay_89 : decode cX11_lay 89 = .ok (.getfield 115, 3) := by decide +kernel
theorem dX11_lay_92 : decode cX11_lay 92 = .ok (.iload_n 3, 1) := by decide +kernel
theorem dX11_lay_93 : decode cX11_lay 93 = .ok (.iaload, 1) := by decide +kernel
theorem dX11_lay_94 : decode cX11_lay 94 = .ok (.ifCond .lt 6, 3) := by decide +kernel
theorem dX11_lay_97 : decode cX11_lay 97 = .ok (.goto 36, 3) := by decide +kernel
theorem dX11_lay_100 : decode cX11_lay 100 = .ok (.iconst 0, 1) := by decide +kernel
theorem dX11_lay_101 : decode cX11_lay 101 = .ok (.istore 5, 2) := by decide +kernel
theorem dX11_lay_103 : decode cX11_lay 103 = .ok (.iload 5, 2) := by decide +kernel
theorem dX11_lay_105 : decode cX11_lay 105 = .ok (.iload_n 3, 1) := by decide +kernel
theorem dX11_lay_106 : decode cX11_lay 106 = .ok (.if_icmp .ge 22, 3) := by decide +kernel
theorem dX11_lay_109 : decode cX11_lay 109 = .ok (.aload_n 0, 1) := by decide +kernel
theorem dX11_lay_110 : decode cX11_lay 110 = .ok (.getfield 16, 3) := by decide +kernel
theorem dX11_lay_113 : decode cX11_lay 113 = .ok (.aload_n 0, 1) := by decide +kernel
theorem dX11_lay_114 : decode cX11_lay 114 = .ok (.getfield 115, 3) := by decide +kernel
theorem dX11_lay_117 : decode cX11_lay 117 = .ok (.iload 5, 2) := by decide +kernel
theorem dX11_lay_119 : decode cX11_lay 119 = .ok (.iaload, 1) := by decide +kernel
theorem dX11_lay_120 : decode cX11_lay 120 = .ok (.iconst 0, 1) := by decide +kernel
theorem dX11_lay_121 : decode cX11_lay 121 = .ok (.bastore, 1) := by decide +kernel
theorem dX11_lay_122 : decode cX11_lay 122 = .ok (.iinc 5 1, 3) := by decide +kernel
theorem dX11_lay_125 : decode cX11_lay 125 = .ok (.goto (-22), 3) := by decide +kernel
theorem dX11_lay_128 : decode cX11_lay 128 = .ok (.bipush (-2), 2) := by decide +kernel
theorem dX11_lay_130 : decode cX11_lay 130 = .ok (.iload_n 3, 1) := by decide +kernel
theorem dX11_lay_131 : decode cX11_lay 131 = .ok (.isub, 1) := by decide +kernel
theorem dX11_lay_132 : decode cX11_lay 132 = .ok (.ireturn, 1) := by decide +kernel
theorem dX11_lay_133 : decode cX11_lay 133 = .ok (.iinc 3 1, 3) := by decide +kernel
theorem dX11_lay_136 : decode cX11_lay 136 = .ok (.goto (-107), 3) := by decide +kernel
theorem dX11_lay_139 : decode cX11_lay 139 = .ok (.iconst 0, 1) := by decide +kernel
theorem dX11_lay_140 : decode cX11_lay 140 = .ok (.istore_n 3, 1) := by decide +kernel
theorem dX11_lay_141 : decode cX11_lay 141 = .ok (.iload_n 3, 1) := by decide +kernel
theorem dX11_lay_142 : decode cX11_lay 142 = .ok (.iload_n 2, 1) := by decide +kernel
theorem dX11_lay_143 : decode cX11_lay 143 = .ok (.if_icmp .ge 21, 3) := by decide +kernel
theorem dX11_lay_146 : decode cX11_lay 146 = .ok (.aload_n 0, 1) := by decide +kernel
theorem dX11_lay_147 : decode cX11_lay 147 = .ok (.getfield 16, 3) := by decide +kernel
theorem dX11_lay_150 : decode cX11_lay 150 = .ok (.aload_n 0, 1) := by decide +kernel
theorem dX11_lay_151 : decode cX11_lay 151 = .ok (.getfield 115, 3) := by decide +kernel
theorem dX11_lay_154 : decode cX11_lay 154 = .ok (.iload_n 3, 1) := by decide +kernel
theorem dX11_lay_155 : decode cX11_lay 155 = .ok (.iaload, 1) := by decide +kernel
theorem dX11_lay_156 : decode cX11_lay 156 = .ok (.iconst 0, 1) := by decide +kernel
theorem dX11_lay_157 : decode cX11_lay 157 = .ok (.bastore, 1) := by decide +kernel
theorem dX11_lay_158 : decode cX11_lay 158 = .ok (.iinc 3 1, 3) := by decide +kernel
theorem dX11_lay_161 : decode cX11_lay 161 = .ok (.goto (-20), 3) := by decide +kernel
theorem dX11_lay_164 : decode cX11_lay 164 = .ok (.aload_n 0, 1) := by decide +kernel
theorem dX11_lay_165 : decode cX11_lay 165 = .ok (.invokevirtual 131, 3) := by decide +kernel
theorem dX11_lay_168 : decode cX11_lay 168 = .ok (.iconst 0, 1) := by decide +kernel
theorem dX11_lay_169 : decode cX11_lay 169 = .ok (.istore_n 3, 1) := by decide +kernel
theorem dX11_lay_170 : decode cX11_lay 170 = .ok (.iload_n 3, 1) := by decide +kernel
theorem dX11_lay_171 : decode cX11_lay 171 = .ok (.iload_n 2, 1) := by decide +kernel
theorem dX11_lay_172 : decode cX11_lay 172 = .ok (.if_icmp .ge 21, 3) := by decide +kernel
theorem dX11_lay_175 : decode cX11_lay 175 = .ok (.aload_n 0, 1) := by decide +kernel
theorem dX11_lay_176 : decode cX11_lay 176 = .ok (.getfield 16, 3) := by decide +kernel
theorem dX11_lay_179 : decode cX11_lay 179 = .ok (.aload_n 0, 1) := by decide +kernel
theorem dX11_lay_180 : decode cX11_lay 180 = .ok (.getfield 115, 3) := by decide +kernel
theorem dX11_lay_183 : decode cX11_lay 183 = .ok (.iload_n 3, 1) := by decide +kernel
theorem dX11_lay_184 : decode cX11_lay 184 = .ok (.iaload, 1) := by decide +kernel
theorem dX11_lay_185 : decode cX11_lay 185 = .ok (.iconst 1, 1) := by decide +kernel
theorem dX11_lay_186 : decode cX11_lay 186 = .ok (.bastore, 1) := by decide +kernel
theorem dX11_lay_187 : decode cX11_lay 187 = .ok (.iinc 3 1, 3) := by decide +kernel
theorem dX11_lay_190 : decode cX11_lay 190 = .ok (.goto (-20), 3) := by decide +kernel
theorem dX11_lay_193 : decode cX11_lay 193 = .ok (.iload_n 2, 1) := by decide +kernel
theorem dX11_lay_194 : decode cX11_lay 194 = .ok (.ireturn, 1) := by decide +kernel
theorem dJ13_compare_74951_0 : decode cJ13_compare_74951 0 = .ok (.lload_n 0, 1) := by decide +kernel
theorem dJ13_compare_74951_1 : decode cJ13_compare_74951 1 = .ok (.lload_n 2, 1) := by decide +kernel
theorem dJ13_compare_74951_2 : decode cJ13_compare_74951 2 = .ok (.lcmp, 1) := by decide +kernel
theorem dJ13_compare_74951_3 : decode cJ13_compare_74951 3 = .ok (.ifCond .ge 7, 3) := by decide +kernel
theorem dJ13_compare_74951_6 : decode cJ13_compare_74951 6 = .ok (.iconst (-1), 1) := by decide +kernel
theorem dJ13_compare_74951_7 : decode cJ13_compare_74951 7 = .ok (.goto 14, 3) := by decide +kernel
theorem dJ13_compare_74951_10 : decode cJ13_compare_74951 10 = .ok (.lload_n 0, 1) := by decide +kernel
theorem dJ13_compare_74951_11 : decode cJ13_compare_74951 11 = .ok (.lload_n 2, 1) := by decide +kernel
theorem dJ13_compare_74951_12 : decode cJ13_compare_74951 12 = .ok (.lcmp, 1) := by decide +kernel
theorem dJ13_compare_74951_13 : decode cJ13_compare_74951 13 = .ok (.ifCond .ne 7, 3) := by decide +kernel
theorem dJ13_compare_74951_16 : decode cJ13_compare_74951 16 = .ok (.iconst 0, 1) := by decide +kernel
theorem dJ13_compare_74951_17 : decode cJ13_compare_74951 17 = .ok (.goto 4, 3) := by decide +kernel
theorem dJ13_compare_74951_20 : decode cJ13_compare_74951 20 = .ok (.iconst 1, 1) := by decide +kernel
theorem dJ13_compare_74951_21 : decode cJ13_compare_74951 21 = .ok (.ireturn, 1) := by decide +kernel
theorem dJ9_abs_067f4_0 : decode cJ9_abs_067f4 0 = .ok (.lload_n 0, 1) := by decide +kernel
theorem dJ9_abs_067f4_1 : decode cJ9_abs_067f4 1 = .ok (.lconst 0, 1) := by decide +kernel
theorem dJ9_abs_067f4_2 : decode cJ9_abs_067f4 2 = .ok (.lcmp, 1) := by decide +kernel
theorem dJ9_abs_067f4_3 : decode cJ9_abs_067f4 3 = .ok (.ifCond .ge 8, 3) := by decide +kernel
theorem dJ9_abs_067f4_6 : decode cJ9_abs_067f4 6 = .ok (.lload_n 0, 1) := by decide +kernel
theorem dJ9_abs_067f4_7 : decode cJ9_abs_067f4 7 = .ok (.lneg, 1) := by decide +kernel
theorem dJ9_abs_067f4_8 : decode cJ9_abs_067f4 8 = .ok (.goto 4, 3) := by decide +kernel
theorem dJ9_abs_067f4_11 : decode cJ9_abs_067f4 11 = .ok (.lload_n 0, 1) := by decide +kernel
theorem dJ9_abs_067f4_12 : decode cJ9_abs_067f4 12 = .ok (.lreturn, 1) := by decide +kernel
theorem dJ9_max_7cf53_0 : decode cJ9_max_7cf53 0 = .ok (.iload_n 0, 1) := by decide +kernel
theorem dJ9_max_7cf53_1 : decode cJ9_max_7cf53 1 = .ok (.iload_n 1, 1) := by decide +kernel
theorem dJ9_max_7cf53_2 : decode cJ9_max_7cf53 2 = .ok (.if_icmp .lt 7, 3) := by decide +kernel
theorem dJ9_max_7cf53_5 : decode cJ9_max_7cf53 5 = .ok (.iload_n 0, 1) := by decide +kernel
theorem dJ9_max_7cf53_6 : decode cJ9_max_7cf53 6 = .ok (.goto 4, 3) := by decide +kernel
theorem dJ9_max_7cf53_9 : decode cJ9_max_7cf53 9 = .ok (.iload_n 1, 1) := by decide +kernel
theorem dJ9_max_7cf53_10 : decode cJ9_max_7cf53 10 = .ok (.ireturn, 1) := by decide +kernel
theorem dJ9_max_f86c9_0 : decode cJ9_max_f86c9 0 = .ok (.lload_n 0, 1) := by decide +kernel
theorem dJ9_max_f86c9_1 : decode cJ9_max_f86c9 1 = .ok (.lload_n 2, 1) := by decide +kernel
theorem dJ9_max_f86c9_2 : decode cJ9_max_f86c9 2 = .ok (.lcmp, 1) := by decide +kernel
theorem dJ9_max_f86c9_3 : decode cJ9_max_f86c9 3 = .ok (.ifCond .lt 7, 3) := by decide +kernel
theorem dJ9_max_f86c9_6 : decode cJ9_max_f86c9 6 = .ok (.lload_n 0, 1) := by decide +kernel
theorem dJ9_max_f86c9_7 : decode cJ9_max_f86c9 7 = .ok (.goto 4, 3) := by decide +kernel
theorem dJ9_max_f86c9_10 : decode cJ9_max_f86c9 10 = .ok (.lload_n 2, 1) := by decide +kernel
theorem dJ9_max_f86c9_11 : decode cJ9_max_f86c9 11 = .ok (.lreturn, 1) := by decide +kernel
theorem dJ9_min_7cf53_0 : decode cJ9_min_7cf53 0 = .ok (.iload_n 0, 1) := by decide +kernel
theorem dJ9_min_7cf53_1 : decode cJ9_min_7cf53 1 = .ok (.iload_n 1, 1) := by decide +kernel
theorem dJ9_min_7cf53_2 : decode cJ9_min_7cf53 2 = .ok (.if_icmp .gt 7, 3) := by decide +kernel
theorem dJ9_min_7cf53_5 : decode cJ9_min_7cf53 5 = .ok (.iload_n 0, 1) := by decide +kernel
theorem dJ9_min_7cf53_6 : decode cJ9_min_7cf53 6 = .ok (.goto 4, 3) := by decide +kernel
theorem dJ9_min_7cf53_9 : decode cJ9_min_7cf53 9 = .ok (.iload_n 1, 1) := by decide +kernel
theorem dJ9_min_7cf53_10 : decode cJ9_min_7cf53 10 = .ok (.ireturn, 1) := by decide +kernel
theorem dJ9_min_f86c9_0 : decode cJ9_min_f86c9 0 = .ok (.lload_n 0, 1) := by decide +kernel
theorem dJ9_min_f86c9_1 : decode cJ9_min_f86c9 1 = .ok (.lload_n 2, 1) := by decide +kernel
theorem dJ9_min_f86c9_2 : decode cJ9_min_f86c9 2 = .ok (.lcmp, 1) := by decide +kernel
theorem dJ9_min_f86c9_3 : decode cJ9_min_f86c9 3 = .ok (.ifCond .gt 7, 3) := by decide +kernel
theorem dJ9_min_f86c9_6 : decode cJ9_min_f86c9 6 = .ok (.lload_n 0, 1) := by decide +kernel
theorem dJ9_min_f86c9_7 : decode cJ9_min_f86c9 7 = .ok (.goto 4, 3) := by decide +kernel
theorem dJ9_min_f86c9_10 : decode cJ9_min_f86c9 10 = .ok (.lload_n 2, 1) := by decide +kernel
theorem dJ9_min_f86c9_11 : decode cJ9_min_f86c9 11 = .ok (.lreturn, 1) := by decide +kernel
theorem dJ7_fill_d0a16_0 : decode cJ7_fill_d0a16 0 = .ok (.iconst 0, 1) := by decide +kernel
theorem dJ7_fill_d0a16_1 : decode cJ7_fill_d0a16 1 = .ok (.istore_n 3, 1) := by decide +kernel
theorem dJ7_fill_d0a16_2 : decode cJ7_fill_d0a16 2 = .ok (.aload_n 0, 1) := by decide +kernel
theorem dJ7_fill_d0a16_3 : decode cJ7_fill_d0a16 3 = .ok (.arraylength, 1) := by decide +kernel
theorem dJ7_fill_d0a16_4 : decode cJ7_fill_d0a16 4 = .ok (.istore 4, 2) := by decide +kernel
theorem dJ7_fill_d0a16_6 : decode cJ7_fill_d0a16 6 = .ok (.iload_n 3, 1) := by decide +kernel
theorem dJ7_fill_d0a16_7 : decode cJ7_fill_d0a16 7 = .ok (.iload 4, 2) := by decide +kernel
theorem dJ7_fill_d0a16_9 : decode cJ7_fill_d0a16 9 = .ok (.if_icmp .ge 13, 3) := by decide +kernel
theorem dJ7_fill_d0a16_12 : decode cJ7_fill_d0a16 12 = .ok (.aload_n 0, 1) := by decide +kernel
theorem dJ7_fill_d0a16_13 : decode cJ7_fill_d0a16 13 = .ok (.iload_n 3, 1) := by decide +kernel
theorem dJ7_fill_d0a16_14 : decode cJ7_fill_d0a16 14 = .ok (.lload_n 1, 1) := by decide +kernel
theorem dJ7_fill_d0a16_15 : decode cJ7_fill_d0a16 15 = .ok (.lastore, 1) := by decide +kernel
theorem dJ7_fill_d0a16_16 : decode cJ7_fill_d0a16 16 = .ok (.iinc 3 1, 3) := by decide +kernel
theorem dJ7_fill_d0a16_19 : decode cJ7_fill_d0a16 19 = .ok (.goto (-13), 3) := by decide +kernel
theorem dJ7_fill_d0a16_22 : decode cJ7_fill_d0a16 22 = .ok (.return_, 1) := by decide +kernel
theorem dJ7_fill_53178_0 : decode cJ7_fill_53178 0 = .ok (.iconst 0, 1) := by decide +kernel
theorem dJ7_fill_53178_1 : decode cJ7_fill_53178 1 = .ok (.istore_n 2, 1) := by decide +kernel
theorem dJ7_fill_53178_2 : decode cJ7_fill_53178 2 = .ok (.aload_n 0, 1) := by decide +kernel
theorem dJ7_fill_53178_3 : decode cJ7_fill_53178 3 = .ok (.arraylength, 1) := by decide +kernel
theorem dJ7_fill_53178_4 : decode cJ7_fill_53178 4 = .ok (.istore_n 3, 1) := by decide +kernel
theorem dJ7_fill_53178_5 : decode cJ7_fill_53178 5 = .ok (.iload_n 2, 1) := by decide +kernel
theorem dJ7_fill_53178_6 : decode cJ7_fill_53178 6 = .ok (.iload_n 3, 1) := by decide +kernel
theorem dJ7_fill_53178_7 : decode cJ7_fill_53178 7 = .ok (.if_icmp .ge 13, 3) := by decide +kernel
theorem dJ7_fill_53178_10 : decode cJ7_fill_53178 10 = .ok (.aload_n 0, 1) := by decide +kernel
theorem dJ7_fill_53178_11 : decode cJ7_fill_53178 11 = .ok (.iload_n 2, 1) := by decide +kernel
theorem dJ7_fill_53178_12 : decode cJ7_fill_53178 12 = .ok (.iload_n 1, 1) := by decide +kernel
theorem dJ7_fill_53178_13 : decode cJ7_fill_53178 13 = .ok (.iastore, 1) := by decide +kernel
theorem dJ7_fill_53178_14 : decode cJ7_fill_53178 14 = .ok (.iinc 2 1, 3) := by decide +kernel
theorem dJ7_fill_53178_17 : decode cJ7_fill_53178 17 = .ok (.goto (-12), 3) := by decide +kernel
theorem dJ7_fill_53178_20 : decode cJ7_fill_53178 20 = .ok (.return_, 1) := by decide +kernel
theorem dL_law_0 : decode cL_law 0 = .ok (.new 7, 3) := by decide +kernel
theorem dL_law_3 : decode cL_law 3 = .ok (.dup, 1) := by decide +kernel
theorem dL_law_4 : decode cL_law 4 = .ok (.invokespecial 9, 3) := by decide +kernel
theorem dL_law_7 : decode cL_law 7 = .ok (.astore_n 1, 1) := by decide +kernel
theorem dL_law_8 : decode cL_law 8 = .ok (.new 10, 3) := by decide +kernel
theorem dL_law_11 : decode cL_law 11 = .ok (.dup, 1) := by decide +kernel
theorem dL_law_12 : decode cL_law 12 = .ok (.invokespecial 12, 3) := by decide +kernel
theorem dL_law_15 : decode cL_law 15 = .ok (.astore_n 2, 1) := by decide +kernel
theorem dL_law_16 : decode cL_law 16 = .ok (.iconst 0, 1) := by decide +kernel
theorem dL_law_17 : decode cL_law 17 = .ok (.istore_n 3, 1) := by decide +kernel
theorem dL_law_18 : decode cL_law 18 = .ok (.iload_n 3, 1) := by decide +kernel
theorem dL_law_19 : decode cL_law 19 = .ok (.aload_n 0, 1) := by decide +kernel
theorem dL_law_20 : decode cL_law 20 = .ok (.arraylength, 1) := by decide +kernel
theorem dL_law_21 : decode cL_law 21 = .ok (.bipush 7, 2) := by decide +kernel
theorem dL_law_23 : decode cL_law 23 = .ok (.isub, 1) := by decide +kernel
theorem dL_law_24 : decode cL_law 24 = .ok (.if_icmp .gt 1123, 3) := by decide +kernel
theorem dL_law_27 : decode cL_law 27 = .ok (.aload_n 0, 1) := by decide +kernel
theorem dL_law_28 : decode cL_law 28 = .ok (.iload_n 3, 1) := by decide +kernel
theorem dL_law_29 : decode cL_law 29 = .ok (.iaload, 1) := by decide +kernel
theorem dL_law_30 : decode cL_law 30 = .ok (.bipush 31, 2) := by decide +kernel
theorem dL_law_32 : decode cL_law 32 = .ok (.iand, 1) := by decide +kernel
theorem dL_law_33 : decode cL_law 33 = .ok (.tableswitch 1108 0 30 #[139, 172, 195, 248, 271, 314, 347, 380, 403, 446, 499, 522, 566, 599, 632, 686, 709, 722, 745, 779, 803, 826, 849, 862, 895, 908, 931, 964, 997, 1072, 1095], 139) := by decide +kernel
theorem dL_law_172 : decode cL_law 172 = .ok (.aload_n 1, 1) := by decide +kernel
theorem dL_law_173 : decode cL_law 173 = .ok (.aload_n 0, 1) := by decide +kernel
theorem dL_law_174 : decode cL_law 174 = .ok (.iload_n 3, 1) := by decide +kernel
theorem dL_law_175 : decode cL_law 175 = .ok (.iconst 1, 1) := by decide +kernel
theorem dL_law_176 : decode cL_law 176 = .ok (.iadd, 1) := by decide +kernel
theorem dL_law_177 : decode cL_law 177 = .ok (.iaload, 1) := by decide +kernel
theorem dL_law_178 : decode cL_law 178 = .ok (.aload_n 0, 1) := by decide +kernel
theorem dL_law_179 : decode cL_law 179 = .ok (.iload_n 3, 1) := by decide +kernel
theorem dL_law_180 : decode cL_law 180 = .ok (.iconst 2, 1) := by decide +kernel
theorem dL_law_181 : decode cL_law 181 = .ok (.iadd, 1) := by decide +kernel
theorem dL_law_182 : decode cL_law 182 = .ok (.iaload, 1) := by decide +kernel
theorem dL_law_183 : decode cL_law 183 = .ok (.invokevirtual 13, 3) := by decide +kernel
theorem dL_law_186 : decode cL_law 186 = .ok (.aload_n 2, 1) := by decide +kernel
theorem dL_law_187 : decode cL_law 187 = .ok (.aload_n 0, 1) := by decide +kernel
theorem dL_law_188 : decode cL_law 188 = .ok (.iload_n 3, 1) := by decide +kernel
theorem dL_law_189 : decode cL_law 189 = .ok (.iconst 1, 1) := by decide +kernel
theorem dL_law_190 : decode cL_law 190 = .ok (.iadd, 1) := by decide +kernel
theorem dL_law_191 : decode cL_law 191 = .ok (.iaload, 1) := by decide +kernel
theorem dL_law_192 : decode cL_law 192 = .ok (.aload_n 0, 1) := by decide +kernel
theorem dL_law_193 : decode cL_law 193 = .ok (.iload_n 3, 1) := by decide +kernel
theorem dL_law_194 : decode cL_law 194 = .ok (.iconst 2, 1) := by decide +kernel
theorem dL_law_195 : decode cL_law 195 = .ok (.iadd, 1) := by decide +kernel
theorem dL_law_196 : decode cL_law 196 = .ok (.iaload, 1) := by decide +kernel
theorem dL_law_197 : decode cL_law 197 = .ok (.invokevirtual 17, 3) := by decide +kernel
theorem dL_law_200 : decode cL_law 200 = .ok (.if_icmp .eq 941, 3) := by decide +kernel
theorem dL_law_203 : decode cL_law 203 = .ok (.iconst 0, 1) := by decide +kernel
theorem dL_law_204 : decode cL_law 204 = .ok (.ireturn, 1) := by decide +kernel
theorem dL_law_205 : decode cL_law 205 = .ok (.aload_n 1, 1) := by decide +kernel
theorem dL_law_206 : decode cL_law 206 = .ok (.aload_n 0, 1) := by decide +kernel
theorem dL_law_207 : decode cL_law 207 = .ok (.iload_n 3, 1) := by decide +kernel
theorem dL_law_208 : decode cL_law 208 = .ok (.iconst 1, 1) := by decide +kernel
theorem dL_law_209 : decode cL_law 209 = .ok (.iadd, 1) := by decide +kernel
theorem dL_law_210 : decode cL_law 210 = .ok (.iaload, 1) := by decide +kernel
theorem dL_law_211 : decode cL_law 211 = .ok (.invokevirtual 18, 3) := by decide +kernel
theorem dL_law_214 : decode cL_law 214 = .ok (.aload_n 2, 1) := by decide +kernel
theorem dL_law_215 : decode cL_law 215 = .ok (.aload_n 0, 1) := by decide +kernel
theorem dL_law_216 : decode cL_law 216 = .ok (.iload_n 3, 1) := by decide +kernel
theorem dL_law_217 : decode cL_law 217 = .ok (.iconst 1, 1) := by decide +kernel
theorem dL_law_218 : decode cL_law 218 = .ok (.iadd, 1) := by decide +kernel
theorem dL_law_219 : decode cL_law 219 = .ok (.iaload, 1) := by decide +kernel
theorem dL_law_220 : decode cL_law 220 = .ok (.invokevirtual 22, 3) := by decide +kernel
theorem dL_law_223 : decode cL_law 223 = .ok (.if_icmp .eq 918, 3) := by decide +kernel
theorem dL_law_226 : decode cL_law 226 = .ok (.iconst 0, 1) := by decide +kernel
theorem dL_law_227 : decode cL_law 227 = .ok (.ireturn, 1) := by decide +kernel
theorem dL_law_228 : decode cL_law 228 = .ok (.aload_n 1, 1) := by decide +kernel
theorem dL_law_229 : decode cL_law 229 = .ok (.aload_n 0, 1) := by decide +kernel
theorem dL_law_230 : decode cL_law 230 = .ok (.iload_n 3, 1) := by decide +kernel
theorem dL_law_231 : decode cL_law 231 = .ok (.iconst 1, 1) := by decide +kernel
theorem dL_law_232 : decode cL_law 232 = .ok (.iadd, 1) := by decide +kernel
theorem dL_law_233 : decode cL_law 233 = .ok (.iaload, 1) := by decide +kernel
theorem dL_law_234 : decode cL_law 234 = .ok (.aload_n 0, 1) := by decide +kernel
theorem dL_law_235 : decode cL_law 235 = .ok (.iload_n 3, 1) := by decide +kernel
theorem dL_law_236 : decode cL_law 236 = .ok (.iconst 2, 1) := by decide +kernel
theorem dL_law_237 : decode cL_law 237 = .ok (.iadd, 1) := by decide +kernel
theorem dL_law_238 : decode cL_law 238 = .ok (.iaload, 1) := by decide +kernel
theorem dL_law_239 : decode cL_law 239 = .ok (.aload_n 0, 1) := by decide +kernel
theorem dL_law_240 : decode cL_law 240 = .ok (.iload_n 3, 1) := by decide +kernel
theorem dL_law_241 : decode cL_law 241 = .ok (.iconst 3, 1) := by decide +kernel
theorem dL_law_242 : decode cL_law 242 = .ok (.iadd, 1) := by decide +kernel
theorem dL_law_243 : decode cL_law 243 = .ok (.iaload, 1) := by decide +kernel
theorem dL_law_244 : decode cL_law 244 = .ok (.aload_n 0, 1) := by decide +kernel
theorem dL_law_245 : decode cL_law 245 = .ok (.iload_n 3, 1) := by decide +kernel
theorem dL_law_246 : decode cL_law 246 = .ok (.iconst 4, 1) := by decide +kernel
theorem dL_law_247 : decode cL_law 247 = .ok (.iadd, 1) := by decide +kernel
theorem dL_law_248 : decode cL_law 248 = .ok (.iaload, 1) := by decide +kernel
theorem dL_law_249 : decode cL_law 249 = .ok (.invokevirtual 23, 3) := by decide +kernel
theorem dL_law_252 : decode cL_law 252 = .ok (.aload_n 2, 1) := by decide +kernel
theorem dL_law_253 : decode cL_law 253 = .ok (.aload_n 0, 1) := by decide +kernel
theorem dL_law_254 : decode cL_law 254 = .ok (.iload_n 3, 1) := by decide +kernel
theorem dL_law_255 : decode cL_law 255 = .ok (.iconst 1, 1) := by decide +kernel
theorem dL_law_256 : decode cL_law 256 = .ok (.iadd, 1) := by decide +kernel
theorem dL_law_257 : decode cL_law 257 = .ok (.iaload, 1) := by decide +kernel
theorem dL_law_258 : decode cL_law 258 = .ok (.aload_n 0, 1) := by decide +kernel
theorem dL_law_259 : decode cL_law 259 = .ok (.iload_n 3, 1) := by decide +kernel
theorem dL_law_260 : decode cL_law 260 = .ok (.iconst 2, 1) := by decide +kernel
theorem dL_law_261 : decode cL_law 261 = .ok (.iadd, 1) := by decide +kernel
theorem dL_law_262 : decode cL_law 262 = .ok (.iaload, 1) := by decide +kernel
theorem dL_law_263 : decode cL_law 263 = .ok (.aload_n 0, 1) := by decide +kernel
theorem dL_law_264 : decode cL_law 264 = .ok (.iload_n 3, 1) := by decide +kernel
theorem dL_law_265 : decode cL_law 265 = .ok (.iconst 3, 1) := by decide +kernel
theorem dL_law_266 : decode cL_law 266 = .ok (.iadd, 1) := by decide +kernel
theorem dL_law_267 : decode cL_law 267 = .ok (.iaload, 1) := by decide +kernel
theorem dL_law_268 : decode cL_law 268 = .ok (.aload_n 0, 1) := by decide +kernel
theorem dL_law_269 : decode cL_law 269 = .ok (.iload_n 3, 1) := by decide +kernel
theorem dL_law_270 : decode cL_law 270 = .ok (.iconst 4, 1) := by decide +kernel
theorem dL_law_271 : decode cL_law 271 = .ok (.iadd, 1) := by decide +kernel
theorem dL_law_272 : decode cL_law 272 = .ok (.iaload, 1) := by decide +kernel
theorem dL_law_273 : decode cL_law 273 = .ok (.invokevirtual 27, 3) := by decide +kernel
theorem dL_law_276 : decode cL_law 276 = .ok (.if_icmp .eq 865, 3) := by decide +kernel
theorem dL_law_279 : decode cL_law 279 = .ok (.iconst 0, 1) := by decide +kernel
theorem dL_law_280 : decode cL_law 280 = .ok (.ireturn, 1) := by decide +kernel
theorem dL_law_281 : decode cL_law 281 = .ok (.aload_n 1, 1) := by decide +kernel
theorem dL_law_282 : decode cL_law 282 = .ok (.aload_n 0, 1) := by decide +kernel
theorem dL_law_283 : decode cL_law 283 = .ok (.iload_n 3, 1) := by decide +kernel
theorem dL_law_284 : decode cL_law 284 = .ok (.iconst 1, 1) := by decide +kernel
theorem dL_law_285 : decode cL_law 285 = .ok (.iadd, 1) := by decide +kernel
theorem dL_law_286 : decode cL_law 286 = .ok (.iaload, 1) := by decide +kernel
theorem dL_law_287 : decode cL_law 287 = .ok (.invokevirtual 28, 3) := by decide +kernel
theorem dL_law_290 : decode cL_law 290 = .ok (.aload_n 2, 1) := by decide +kernel
theorem dL_law_291 : decode cL_law 291 = .ok (.aload_n 0, 1) := by decide +kernel
theorem dL_law_292 : decode cL_law 292 = .ok (.iload_n 3, 1) := by decide +kernel
theorem dL_law_293 : decode cL_law 293 = .ok (.iconst 1, 1) := by decide +kernel
theorem dL_law_294 : decode cL_law 294 = .ok (.iadd, 1) := by decide +kernel
theorem dL_law_295 : decode cL_law 295 = .ok (.iaload, 1) := by decide +kernel
theorem dL_law_296 : decode cL_law 296 = .ok (.invokevirtual 31, 3) := by decide +kernel
theorem dL_law_299 : decode cL_law 299 = .ok (.if_icmp .eq 842, 3) := by decide +kernel
theorem dL_law_302 : decode cL_law 302 = .ok (.iconst 0, 1) := by decide +kernel
theorem dL_law_303 : decode cL_law 303 = .ok (.ireturn, 1) := by decide +kernel
theorem dL_law_304 : decode cL_law 304 = .ok (.aload_n 1, 1) := by decide +kernel
theorem dL_law_305 : decode cL_law 305 = .ok (.aload_n 0, 1) := by decide +kernel
theorem dL_law_306 : decode cL_law 306 = .ok (.iload_n 3, 1) := by decide +kernel
theorem dL_law_307 : decode cL_law 307 = .ok (.iconst 1, 1) := by decide +kernel
theorem dL_law_308 : decode cL_law 308 = .ok (.iadd, 1) := by decide +kernel
theorem dL_law_309 : decode cL_law 309 = .ok (.iaload, 1) := by decide +kernel
theorem dL_law_310 : decode cL_law 310 = .ok (.aload_n 0, 1) := by decide +kernel
theorem dL_law_311 : decode cL_law 311 = .ok (.iload_n 3, 1) := by decide +kernel
theorem dL_law_312 : decode cL_law 312 = .ok (.iconst 2, 1) := by decide +kernel
theorem dL_law_313 : decode cL_law 313 = .ok (.iadd, 1) := by decide +kernel
theorem dL_law_314 : decode cL_law 314 = .ok (.iaload, 1) := by decide +kernel
theorem dL_law_315 : decode cL_law 315 = .ok (.aload_n 0, 1) := by decide +kernel
theorem dL_law_316 : decode cL_law 316 = .ok (.iload_n 3, 1) := by decide +kernel
theorem dL_law_317 : decode cL_law 317 = .ok (.iconst 3, 1) := by decide +kernel
theorem dL_law_318 : decode cL_law 318 = .ok (.iadd, 1) := by decide +kernel
theorem dL_law_319 : decode cL_law 319 = .ok (.iaload, 1) := by decide +kernel
theorem dL_law_320 : decode cL_law 320 = .ok (.invokevirtual 32, 3) := by decide +kernel
theorem dL_law_323 : decode cL_law 323 = .ok (.aload_n 2, 1) := by decide +kernel
theorem dL_law_324 : decode cL_law 324 = .ok (.aload_n 0, 1) := by decide +kernel
theorem dL_law_325 : decode cL_law 325 = .ok (.iload_n 3, 1) := by decide +kernel
theorem dL_law_326 : decode cL_law 326 = .ok (.iconst 1, 1) := by decide +kernel
theorem dL_law_327 : decode cL_law 327 = .ok (.iadd, 1) := by decide +kernel
theorem dL_law_328 : decode cL_law 328 = .ok (.iaload, 1) := by decide +kernel
theorem dL_law_329 : decode cL_law 329 = .ok (.aload_n 0, 1) := by decide +kernel
theorem dL_law_330 : decode cL_law 330 = .ok (.iload_n 3, 1) := by decide +kernel
theorem dL_law_331 : decode cL_law 331 = .ok (.iconst 2, 1) := by decide +kernel
theorem dL_law_332 : decode cL_law 332 = .ok (.iadd, 1) := by decide +kernel
theorem dL_law_333 : decode cL_law 333 = .ok (.iaload, 1) := by decide +kernel
theorem dL_law_334 : decode cL_law 334 = .ok (.aload_n 0, 1) := by decide +kernel
theorem dL_law_335 : decode cL_law 335 = .ok (.iload_n 3, 1) := by decide +kernel
theorem dL_law_336 : decode cL_law 336 = .ok (.iconst 3, 1) := by decide +kernel
theorem dL_law_337 : decode cL_law 337 = .ok (.iadd, 1) := by decide +kernel
theorem dL_law_338 : decode cL_law 338 = .ok (.iaload, 1) := by decide +kernel
theorem dL_law_339 : decode cL_law 339 = .ok (.invokevirtual 36, 3) := by decide +kernel
theorem dL_law_342 : decode cL_law 342 = .ok (.if_icmp .eq 799, 3) := by decide +kernel
theorem dL_law_345 : decode cL_law 345 = .ok (.iconst 0, 1) := by decide +kernel
theorem dL_law_346 : decode cL_law 346 = .ok (.ireturn, 1) := by decide +kernel
theorem dL_law_347 : decode cL_law 347 = .ok (.aload_n 1, 1) := by decide +kernel
theorem dL_law_348 : decode cL_law 348 = .ok (.aload_n 0, 1) := by decide +kernel
theorem dL_law_349 : decode cL_law 349 = .ok (.iload_n 3, 1) := by decide +kernel
theorem dL_law_350 : decode cL_law 350 = .ok (.iconst 1, 1) := by decide +kernel
theorem dL_law_351 : decode cL_law 351 = .ok (.iadd, 1) := by decide +kernel
theorem dL_law_352 : decode cL_law 352 = .ok (.iaload, 1) := by decide +kernel
theorem dL_law_353 : decode cL_law 353 = .ok (.aload_n 0, 1) := by decide +kernel
theorem dL_law_354 : decode cL_law 354 = .ok (.iload_n 3, 1) := by decide +kernel
theorem dL_law_355 : decode cL_law 355 = .ok (.iconst 2, 1) := by decide +kernel
theorem dL_law_356 : decode cL_law 356 = .ok (.iadd, 1) := by decide +kernel
theorem dL_law_357 : decode cL_law 357 = .ok (.iaload, 1) := by decide +kernel
theorem dL_law_358 : decode cL_law 358 = .ok (.invokevirtual 37, 3) := by decide +kernel
theorem dL_law_361 : decode cL_law 361 = .ok (.aload_n 2, 1) := by decide +kernel
theorem dL_law_362 : decode cL_law 362 = .ok (.aload_n 0, 1) := by decide +kernel
theorem dL_law_363 : decode cL_law 363 = .ok (.iload_n 3, 1) := by decide +kernel
theorem dL_law_364 : decode cL_law 364 = .ok (.iconst 1, 1) := by decide +kernel
theorem dL_law_365 : decode cL_law 365 = .ok (.iadd, 1) := by decide +kernel
theorem dL_law_366 : decode cL_law 366 = .ok (.iaload, 1) := by decide +kernel
theorem dL_law_367 : decode cL_law 367 = .ok (.aload_n 0, 1) := by decide +kernel
theorem dL_law_368 : decode cL_law 368 = .ok (.iload_n 3, 1) := by decide +kernel
theorem dL_law_369 : decode cL_law 369 = .ok (.iconst 2, 1) := by decide +kernel
theorem dL_law_370 : decode cL_law 370 = .ok (.iadd, 1) := by decide +kernel
theorem dL_law_371 : decode cL_law 371 = .ok (.iaload, 1) := by decide +kernel
theorem dL_law_372 : decode cL_law 372 = .ok (.invokevirtual 41, 3) := by decide +kernel
theorem dL_law_375 : decode cL_law 375 = .ok (.if_icmp .eq 766, 3) := by decide +kernel
theorem dL_law_378 : decode cL_law 378 = .ok (.iconst 0, 1) := by decide +kernel
theorem dL_law_379 : decode cL_law 379 = .ok (.ireturn, 1) := by decide +kernel
theorem dL_law_380 : decode cL_law 380 = .ok (.aload_n 1, 1) := by decide +kernel
theorem dL_law_381 : decode cL_law 381 = .ok (.aload_n 0, 1) := by decide +kernel
theorem dL_law_382 : decode cL_law 382 = .ok (.iload_n 3, 1) := by decide +kernel
theorem dL_law_383 : decode cL_law 383 = .ok (.iconst 1, 1) := by decide +kernel
theorem dL_law_384 : decode cL_law 384 = .ok (.iadd, 1) := by decide +kernel
theorem dL_law_385 : decode cL_law 385 = .ok (.iaload, 1) := by decide +kernel
theorem dL_law_386 : decode cL_law 386 = .ok (.aload_n 0, 1) := by decide +kernel
theorem dL_law_387 : decode cL_law 387 = .ok (.iload_n 3, 1) := by decide +kernel
theorem dL_law_388 : decode cL_law 388 = .ok (.iconst 2, 1) := by decide +kernel
theorem dL_law_389 : decode cL_law 389 = .ok (.iadd, 1) := by decide +kernel
theorem dL_law_390 : decode cL_law 390 = .ok (.iaload, 1) := by decide +kernel
theorem dL_law_391 : decode cL_law 391 = .ok (.invokevirtual 42, 3) := by decide +kernel
theorem dL_law_394 : decode cL_law 394 = .ok (.aload_n 2, 1) := by decide +kernel
theorem dL_law_395 : decode cL_law 395 = .ok (.aload_n 0, 1) := by decide +kernel
theorem dL_law_396 : decode cL_law 396 = .ok (.iload_n 3, 1) := by decide +kernel
theorem dL_law_397 : decode cL_law 397 = .ok (.iconst 1, 1) := by decide +kernel
theorem dL_law_398 : decode cL_law 398 = .ok (.iadd, 1) := by decide +kernel
theorem dL_law_399 : decode cL_law 399 = .ok (.iaload, 1) := by decide +kernel
theorem dL_law_400 : decode cL_law 400 = .ok (.aload_n 0, 1) := by decide +kernel
theorem dL_law_401 : decode cL_law 401 = .ok (.iload_n 3, 1) := by decide +kernel
theorem dL_law_402 : decode cL_law 402 = .ok (.iconst 2, 1) := by decide +kernel
theorem dL_law_403 : decode cL_law 403 = .ok (.iadd, 1) := by decide +kernel
theorem dL_law_404 : decode cL_law 404 = .ok (.iaload, 1) := by decide +kernel
theorem dL_law_405 : decode cL_law 405 = .ok (.invokevirtual 45, 3) := by decide +kernel
theorem dL_law_408 : decode cL_law 408 = .ok (.if_icmp .eq 733, 3) := by decide +kernel
theorem dL_law_411 : decode cL_law 411 = .ok (.iconst 0, 1) := by decide +kernel
theorem dL_law_412 : decode cL_law 412 = .ok (.ireturn, 1) := by decide +kernel
theorem dL_law_413 : decode cL_law 413 = .ok (.aload_n 1, 1) := by decide +kernel
theorem dL_law_414 : decode cL_law 414 = .ok (.aload_n 0, 1) := by decide +kernel
theorem dL_law_415 : decode cL_law 415 = .ok (.iload_n 3, 1) := by decide +kernel
theorem dL_law_416 : decode cL_law 416 = .ok (.iconst 1, 1) := by decide +kernel
theorem dL_law_417 : decode cL_law 417 = .ok (.iadd, 1) := by decide +kernel
theorem dL_law_418 : decode cL_law 418 = .ok (.iaload, 1) := by decide +kernel
theorem dL_law_419 : decode cL_law 419 = .ok (.invokevirtual 46, 3) := by decide +kernel
theorem dL_law_422 : decode cL_law 422 = .ok (.aload_n 2, 1) := by decide +kernel
theorem dL_law_423 : decode cL_law 423 = .ok (.aload_n 0, 1) := by decide +kernel
theorem dL_law_424 : decode cL_law 424 = .ok (.iload_n 3, 1) := by decide +kernel
theorem dL_law_425 : decode cL_law 425 = .ok (.iconst 1, 1) := by decide +kernel
theorem dL_law_426 : decode cL_law 426 = .ok (.iadd, 1) := by decide +kernel
theorem dL_law_427 : decode cL_law 427 = .ok (.iaload, 1) := by decide +kernel
theorem dL_law_428 : decode cL_law 428 = .ok (.invokevirtual 49, 3) := by decide +kernel
theorem dL_law_431 : decode cL_law 431 = .ok (.if_icmp .eq 710, 3) := by decide +kernel
theorem dL_law_434 : decode cL_law 434 = .ok (.iconst 0, 1) := by decide +kernel
theorem dL_law_435 : decode cL_law 435 = .ok (.ireturn, 1) := by decide +kernel
theorem dL_law_436 : decode cL_law 436 = .ok (.aload_n 1, 1) := by decide +kernel
theorem dL_law_437 : decode cL_law 437 = .ok (.aload_n 0, 1) := by decide +kernel
theorem dL_law_438 : decode cL_law 438 = .ok (.iload_n 3, 1) := by decide +kernel
theorem dL_law_439 : decode cL_law 439 = .ok (.iconst 1, 1) := by decide +kernel
theorem dL_law_440 : decode cL_law 440 = .ok (.iadd, 1) := by decide +kernel
theorem dL_law_441 : decode cL_law 441 = .ok (.iaload, 1) := by decide +kernel
theorem dL_law_442 : decode cL_law 442 = .ok (.aload_n 0, 1) := by decide +kernel
theorem dL_law_443 : decode cL_law 443 = .ok (.iload_n 3, 1) := by decide +kernel
theorem dL_law_444 : decode cL_law 444 = .ok (.iconst 2, 1) := by decide +kernel
theorem dL_law_445 : decode cL_law 445 = .ok (.iadd, 1) := by decide +kernel
theorem dL_law_446 : decode cL_law 446 = .ok (.iaload, 1) := by decide +kernel
theorem dL_law_447 : decode cL_law 447 = .ok (.aload_n 0, 1) := by decide +kernel
theorem dL_law_448 : decode cL_law 448 = .ok (.iload_n 3, 1) := by decide +kernel
theorem dL_law_449 : decode cL_law 449 = .ok (.iconst 3, 1) := by decide +kernel
theorem dL_law_450 : decode cL_law 450 = .ok (.iadd, 1) := by decide +kernel
theorem dL_law_451 : decode cL_law 451 = .ok (.iaload, 1) := by decide +kernel
theorem dL_law_452 : decode cL_law 452 = .ok (.invokevirtual 50, 3) := by decide +kernel
theorem dL_law_455 : decode cL_law 455 = .ok (.aload_n 2, 1) := by decide +kernel
theorem dL_law_456 : decode cL_law 456 = .ok (.aload_n 0, 1) := by decide +kernel
theorem dL_law_457 : decode cL_law 457 = .ok (.iload_n 3, 1) := by decide +kernel
theorem dL_law_458 : decode cL_law 458 = .ok (.iconst 1, 1) := by decide +kernel
theorem dL_law_459 : decode cL_law 459 = .ok (.iadd, 1) := by decide +kernel
theorem dL_law_460 : decode cL_law 460 = .ok (.iaload, 1) := by decide +kernel
theorem dL_law_461 : decode cL_law 461 = .ok (.aload_n 0, 1) := by decide +kernel
theorem dL_law_462 : decode cL_law 462 = .ok (.iload_n 3, 1) := by decide +kernel
theorem dL_law_463 : decode cL_law 463 = .ok (.iconst 2, 1) := by decide +kernel
theorem dL_law_464 : decode cL_law 464 = .ok (.iadd, 1) := by decide +kernel
theorem dL_law_465 : decode cL_law 465 = .ok (.iaload, 1) := by decide +kernel
theorem dL_law_466 : decode cL_law 466 = .ok (.aload_n 0, 1) := by decide +kernel
theorem dL_law_467 : decode cL_law 467 = .ok (.iload_n 3, 1) := by decide +kernel
theorem dL_law_468 : decode cL_law 468 = .ok (.iconst 3, 1) := by decide +kernel
theorem dL_law_469 : decode cL_law 469 = .ok (.iadd, 1) := by decide +kernel
theorem dL_law_470 : decode cL_law 470 = .ok (.iaload, 1) := by decide +kernel
theorem dL_law_471 : decode cL_law 471 = .ok (.invokevirtual 53, 3) := by decide +kernel
theorem dL_law_474 : decode cL_law 474 = .ok (.if_icmp .eq 667, 3) := by decide +kernel
theorem dL_law_477 : decode cL_law 477 = .ok (.iconst 0, 1) := by decide +kernel
theorem dL_law_478 : decode cL_law 478 = .ok (.ireturn, 1) := by decide +kernel
theorem dL_law_479 : decode cL_law 479 = .ok (.aload_n 1, 1) := by decide +kernel
theorem dL_law_480 : decode cL_law 480 = .ok (.aload_n 0, 1) := by decide +kernel
theorem dL_law_481 : decode cL_law 481 = .ok (.iload_n 3, 1) := by decide +kernel
theorem dL_law_482 : decode cL_law 482 = .ok (.iconst 1, 1) := by decide +kernel
theorem dL_law_483 : decode cL_law 483 = .ok (.iadd, 1) := by decide +kernel
theorem dL_law_484 : decode cL_law 484 = .ok (.iaload, 1) := by decide +kernel
theorem dL_law_485 : decode cL_law 485 = .ok (.aload_n 0, 1) := by decide +kernel
theorem dL_law_486 : decode cL_law 486 = .ok (.iload_n 3, 1) := by decide +kernel
theorem dL_law_487 : decode cL_law 487 = .ok (.iconst 2, 1) := by decide +kernel
theorem dL_law_488 : decode cL_law 488 = .ok (.iadd, 1) := by decide +kernel
theorem dL_law_489 : decode cL_law 489 = .ok (.iaload, 1) := by decide +kernel
theorem dL_law_490 : decode cL_law 490 = .ok (.aload_n 0, 1) := by decide +kernel
theorem dL_law_491 : decode cL_law 491 = .ok (.iload_n 3, 1) := by decide +kernel
theorem dL_law_492 : decode cL_law 492 = .ok (.iconst 3, 1) := by decide +kernel
theorem dL_law_493 : decode cL_law 493 = .ok (.iadd, 1) := by decide +kernel
theorem dL_law_494 : decode cL_law 494 = .ok (.iaload, 1) := by decide +kernel
theorem dL_law_495 : decode cL_law 495 = .ok (.aload_n 0, 1) := by decide +kernel
theorem dL_law_496 : decode cL_law 496 = .ok (.iload_n 3, 1) := by decide +kernel
theorem dL_law_497 : decode cL_law 497 = .ok (.iconst 4, 1) := by decide +kernel
theorem dL_law_498 : decode cL_law 498 = .ok (.iadd, 1) := by decide +kernel
theorem dL_law_499 : decode cL_law 499 = .ok (.iaload, 1) := by decide +kernel
theorem dL_law_500 : decode cL_law 500 = .ok (.invokevirtual 54, 3) := by decide +kernel
theorem dL_law_503 : decode cL_law 503 = .ok (.aload_n 2, 1) := by decide +kernel
theorem dL_law_504 : decode cL_law 504 = .ok (.aload_n 0, 1) := by decide +kernel
theorem dL_law_505 : decode cL_law 505 = .ok (.iload_n 3, 1) := by decide +kernel
theorem dL_law_506 : decode cL_law 506 = .ok (.iconst 1, 1) := by decide +kernel
theorem dL_law_507 : decode cL_law 507 = .ok (.iadd, 1) := by decide +kernel
theorem dL_law_508 : decode cL_law 508 = .ok (.iaload, 1) := by decide +kernel
theorem dL_law_509 : decode cL_law 509 = .ok (.aload_n 0, 1) := by decide +kernel
theorem dL_law_510 : decode cL_law 510 = .ok (.iload_n 3, 1) := by decide +kernel
theorem dL_law_511 : decode cL_law 511 = .ok (.iconst 2, 1) := by decide +kernel
theorem dL_law_512 : decode cL_law 512 = .ok (.iadd, 1) := by decide +kernel
theorem dL_law_513 : decode cL_law 513 = .ok (.iaload, 1) := by decide +kernel
theorem dL_law_514 : decode cL_law 514 = .ok (.aload_n 0, 1) := by decide +kernel
theorem dL_law_515 : decode cL_law 515 = .ok (.iload_n 3, 1) := by decide +kernel
theorem dL_law_516 : decode cL_law 516 = .ok (.iconst 3, 1) := by decide +kernel
theorem dL_law_517 : decode cL_law 517 = .ok (.iadd, 1) := by decide +kernel
theorem dL_law_518 : decode cL_law 518 = .ok (.iaload, 1) := by decide +kernel
theorem dL_law_519 : decode cL_law 519 = .ok (.aload_n 0, 1) := by decide +kernel
theorem dL_law_520 : decode cL_law 520 = .ok (.iload_n 3, 1) := by decide +kernel
theorem dL_law_521 : decode cL_law 521 = .ok (.iconst 4, 1) := by decide +kernel
theorem dL_law_522 : decode cL_law 522 = .ok (.iadd, 1) := by decide +kernel
theorem dL_law_523 : decode cL_law 523 = .ok (.iaload, 1) := by decide +kernel
theorem dL_law_524 : decode cL_law 524 = .ok (.invokevirtual 57, 3) := by decide +kernel
theorem dL_law_527 : decode cL_law 527 = .ok (.if_icmp .eq 614, 3) := by decide +kernel
theorem dL_law_530 : decode cL_law 530 = .ok (.iconst 0, 1) := by decide +kernel
theorem dL_law_531 : decode cL_law 531 = .ok (.ireturn, 1) := by decide +kernel
theorem dL_law_532 : decode cL_law 532 = .ok (.aload_n 1, 1) := by decide +kernel
theorem dL_law_533 : decode cL_law 533 = .ok (.aload_n 0, 1) := by decide +kernel
theorem dL_law_534 : decode cL_law 534 = .ok (.iload_n 3, 1) := by decide +kernel
theorem dL_law_535 : decode cL_law 535 = .ok (.iconst 1, 1) := by decide +kernel
theorem dL_law_536 : decode cL_law 536 = .ok (.iadd, 1) := by decide +kernel
theorem dL_law_537 : decode cL_law 537 = .ok (.iaload, 1) := by decide +kernel
theorem dL_law_538 : decode cL_law 538 = .ok (.invokevirtual 58, 3) := by decide +kernel
theorem dL_law_541 : decode cL_law 541 = .ok (.aload_n 2, 1) := by decide +kernel
theorem dL_law_542 : decode cL_law 542 = .ok (.aload_n 0, 1) := by decide +kernel
theorem dL_law_543 : decode cL_law 543 = .ok (.iload_n 3, 1) := by decide +kernel
theorem dL_law_544 : decode cL_law 544 = .ok (.iconst 1, 1) := by decide +kernel
theorem dL_law_545 : decode cL_law 545 = .ok (.iadd, 1) := by decide +kernel
theorem dL_law_546 : decode cL_law 546 = .ok (.iaload, 1) := by decide +kernel
theorem dL_law_547 : decode cL_law 547 = .ok (.invokevirtual 61, 3) := by decide +kernel
theorem dL_law_550 : decode cL_law 550 = .ok (.if_icmp .eq 591, 3) := by decide +kernel
theorem dL_law_553 : decode cL_law 553 = .ok (.iconst 0, 1) := by decide +kernel
theorem dL_law_554 : decode cL_law 554 = .ok (.ireturn, 1) := by decide +kernel
theorem dL_law_555 : decode cL_law 555 = .ok (.aload_n 1, 1) := by decide +kernel
theorem dL_law_556 : decode cL_law 556 = .ok (.aload_n 0, 1) := by decide +kernel
theorem dL_law_557 : decode cL_law 557 = .ok (.iload_n 3, 1) := by decide +kernel
theorem dL_law_558 : decode cL_law 558 = .ok (.iconst 1, 1) := by decide +kernel
theorem dL_law_559 : decode cL_law 559 = .ok (.iadd, 1) := by decide +kernel
theorem dL_law_560 : decode cL_law 560 = .ok (.iaload, 1) := by decide +kernel
theorem dL_law_561 : decode cL_law 561 = .ok (.aload_n 0, 1) := by decide +kernel
theorem dL_law_562 : decode cL_law 562 = .ok (.iload_n 3, 1) := by decide +kernel
theorem dL_law_563 : decode cL_law 563 = .ok (.iconst 2, 1) := by decide +kernel
theorem dL_law_564 : decode cL_law 564 = .ok (.iadd, 1) := by decide +kernel
theorem dL_law_565 : decode cL_law 565 = .ok (.iaload, 1) := by decide +kernel
theorem dL_law_566 : decode cL_law 566 = .ok (.aload_n 0, 1) := by decide +kernel
theorem dL_law_567 : decode cL_law 567 = .ok (.iload_n 3, 1) := by decide +kernel
theorem dL_law_568 : decode cL_law 568 = .ok (.iconst 3, 1) := by decide +kernel
theorem dL_law_569 : decode cL_law 569 = .ok (.iadd, 1) := by decide +kernel
theorem dL_law_570 : decode cL_law 570 = .ok (.iaload, 1) := by decide +kernel
theorem dL_law_571 : decode cL_law 571 = .ok (.invokevirtual 62, 3) := by decide +kernel
theorem dL_law_574 : decode cL_law 574 = .ok (.aload_n 2, 1) := by decide +kernel
theorem dL_law_575 : decode cL_law 575 = .ok (.aload_n 0, 1) := by decide +kernel
theorem dL_law_576 : decode cL_law 576 = .ok (.iload_n 3, 1) := by decide +kernel
theorem dL_law_577 : decode cL_law 577 = .ok (.iconst 1, 1) := by decide +kernel
theorem dL_law_578 : decode cL_law 578 = .ok (.iadd, 1) := by decide +kernel
theorem dL_law_579 : decode cL_law 579 = .ok (.iaload, 1) := by decide +kernel
theorem dL_law_580 : decode cL_law 580 = .ok (.aload_n 0, 1) := by decide +kernel
theorem dL_law_581 : decode cL_law 581 = .ok (.iload_n 3, 1) := by decide +kernel
theorem dL_law_582 : decode cL_law 582 = .ok (.iconst 2, 1) := by decide +kernel
theorem dL_law_583 : decode cL_law 583 = .ok (.iadd, 1) := by decide +kernel
theorem dL_law_584 : decode cL_law 584 = .ok (.iaload, 1) := by decide +kernel
theorem dL_law_585 : decode cL_law 585 = .ok (.aload_n 0, 1) := by decide +kernel
theorem dL_law_586 : decode cL_law 586 = .ok (.iload_n 3, 1) := by decide +kernel
theorem dL_law_587 : decode cL_law 587 = .ok (.iconst 3, 1) := by decide +kernel
theorem dL_law_588 : decode cL_law 588 = .ok (.iadd, 1) := by decide +kernel
theorem dL_law_589 : decode cL_law 589 = .ok (.iaload, 1) := by decide +kernel
theorem dL_law_590 : decode cL_law 590 = .ok (.invokevirtual 66, 3) := by decide +kernel
theorem dL_law_593 : decode cL_law 593 = .ok (.lcmp, 1) := by decide +kernel
theorem dL_law_594 : decode cL_law 594 = .ok (.ifCond .eq 547, 3) := by decide +kernel
theorem dL_law_597 : decode cL_law 597 = .ok (.iconst 0, 1) := by decide +kernel
theorem dL_law_598 : decode cL_law 598 = .ok (.ireturn, 1) := by decide +kernel
theorem dL_law_599 : decode cL_law 599 = .ok (.aload_n 1, 1) := by decide +kernel
theorem dL_law_600 : decode cL_law 600 = .ok (.aload_n 0, 1) := by decide +kernel
theorem dL_law_601 : decode cL_law 601 = .ok (.iload_n 3, 1) := by decide +kernel
theorem dL_law_602 : decode cL_law 602 = .ok (.iconst 1, 1) := by decide +kernel
theorem dL_law_603 : decode cL_law 603 = .ok (.iadd, 1) := by decide +kernel
theorem dL_law_604 : decode cL_law 604 = .ok (.iaload, 1) := by decide +kernel
theorem dL_law_605 : decode cL_law 605 = .ok (.aload_n 0, 1) := by decide +kernel
theorem dL_law_606 : decode cL_law 606 = .ok (.iload_n 3, 1) := by decide +kernel
theorem dL_law_607 : decode cL_law 607 = .ok (.iconst 2, 1) := by decide +kernel
theorem dL_law_608 : decode cL_law 608 = .ok (.iadd, 1) := by decide +kernel
theorem dL_law_609 : decode cL_law 609 = .ok (.iaload, 1) := by decide +kernel
theorem dL_law_610 : decode cL_law 610 = .ok (.invokevirtual 67, 3) := by decide +kernel
theorem dL_law_613 : decode cL_law 613 = .ok (.aload_n 2, 1) := by decide +kernel
theorem dL_law_614 : decode cL_law 614 = .ok (.aload_n 0, 1) := by decide +kernel
theorem dL_law_615 : decode cL_law 615 = .ok (.iload_n 3, 1) := by decide +kernel
theorem dL_law_616 : decode cL_law 616 = .ok (.iconst 1, 1) := by decide +kernel
theorem dL_law_617 : decode cL_law 617 = .ok (.iadd, 1) := by decide +kernel
theorem dL_law_618 : decode cL_law 618 = .ok (.iaload, 1) := by decide +kernel
theorem dL_law_619 : decode cL_law 619 = .ok (.aload_n 0, 1) := by decide +kernel
theorem dL_law_620 : decode cL_law 620 = .ok (.iload_n 3, 1) := by decide +kernel
theorem dL_law_621 : decode cL_law 621 = .ok (.iconst 2, 1) := by decide +kernel
theorem dL_law_622 : decode cL_law 622 = .ok (.iadd, 1) := by decide +kernel
theorem dL_law_623 : decode cL_law 623 = .ok (.iaload, 1) := by decide +kernel
theorem dL_law_624 : decode cL_law 624 = .ok (.invokevirtual 70, 3) := by decide +kernel
theorem dL_law_627 : decode cL_law 627 = .ok (.if_icmp .eq 514, 3) := by decide +kernel
theorem dL_law_630 : decode cL_law 630 = .ok (.iconst 0, 1) := by decide +kernel
theorem dL_law_631 : decode cL_law 631 = .ok (.ireturn, 1) := by decide +kernel
theorem dL_law_632 : decode cL_law 632 = .ok (.aload_n 1, 1) := by decide +kernel
theorem dL_law_633 : decode cL_law 633 = .ok (.aload_n 0, 1) := by decide +kernel
theorem dL_law_634 : decode cL_law 634 = .ok (.iload_n 3, 1) := by decide +kernel
theorem dL_law_635 : decode cL_law 635 = .ok (.iconst 1, 1) := by decide +kernel
theorem dL_law_636 : decode cL_law 636 = .ok (.iadd, 1) := by decide +kernel
theorem dL_law_637 : decode cL_law 637 = .ok (.iaload, 1) := by decide +kernel
theorem dL_law_638 : decode cL_law 638 = .ok (.aload_n 0, 1) := by decide +kernel
theorem dL_law_639 : decode cL_law 639 = .ok (.iload_n 3, 1) := by decide +kernel
theorem dL_law_640 : decode cL_law 640 = .ok (.iconst 2, 1) := by decide +kernel
theorem dL_law_641 : decode cL_law 641 = .ok (.iadd, 1) := by decide +kernel
theorem dL_law_642 : decode cL_law 642 = .ok (.iaload, 1) := by decide +kernel
theorem dL_law_643 : decode cL_law 643 = .ok (.invokevirtual 71, 3) := by decide +kernel
theorem dL_law_646 : decode cL_law 646 = .ok (.aload_n 2, 1) := by decide +kernel
theorem dL_law_647 : decode cL_law 647 = .ok (.aload_n 0, 1) := by decide +kernel
theorem dL_law_648 : decode cL_law 648 = .ok (.iload_n 3, 1) := by decide +kernel
theorem dL_law_649 : decode cL_law 649 = .ok (.iconst 1, 1) := by decide +kernel
theorem dL_law_650 : decode cL_law 650 = .ok (.iadd, 1) := by decide +kernel
theorem dL_law_651 : decode cL_law 651 = .ok (.iaload, 1) := by decide +kernel
theorem dL_law_652 : decode cL_law 652 = .ok (.aload_n 0, 1) := by decide +kernel
theorem dL_law_653 : decode cL_law 653 = .ok (.iload_n 3, 1) := by decide +kernel
theorem dL_law_654 : decode cL_law 654 = .ok (.iconst 2, 1) := by decide +kernel
theorem dL_law_655 : decode cL_law 655 = .ok (.iadd, 1) := by decide +kernel
theorem dL_law_656 : decode cL_law 656 = .ok (.iaload, 1) := by decide +kernel
theorem dL_law_657 : decode cL_law 657 = .ok (.invokevirtual 74, 3) := by decide +kernel
theorem dL_law_660 : decode cL_law 660 = .ok (.if_icmp .eq 481, 3) := by decide +kernel
theorem dL_law_663 : decode cL_law 663 = .ok (.iconst 0, 1) := by decide +kernel
theorem dL_law_664 : decode cL_law 664 = .ok (.ireturn, 1) := by decide +kernel
theorem dL_law_665 : decode cL_law 665 = .ok (.aload_n 1, 1) := by decide +kernel
theorem dL_law_666 : decode cL_law 666 = .ok (.aload_n 0, 1) := by decide +kernel
theorem dL_law_667 : decode cL_law 667 = .ok (.iload_n 3, 1) := by decide +kernel
theorem dL_law_668 : decode cL_law 668 = .ok (.iconst 1, 1) := by decide +kernel
theorem dL_law_669 : decode cL_law 669 = .ok (.iadd, 1) := by decide +kernel
theorem dL_law_670 : decode cL_law 670 = .ok (.iaload, 1) := by decide +kernel
theorem dL_law_671 : decode cL_law 671 = .ok (.aload_n 0, 1) := by decide +kernel
theorem dL_law_672 : decode cL_law 672 = .ok (.iload_n 3, 1) := by decide +kernel
theorem dL_law_673 : decode cL_law 673 = .ok (.iconst 2, 1) := by decide +kernel
theorem dL_law_674 : decode cL_law 674 = .ok (.iadd, 1) := by decide +kernel
theorem dL_law_675 : decode cL_law 675 = .ok (.iaload, 1) := by decide +kernel
theorem dL_law_676 : decode cL_law 676 = .ok (.aload_n 0, 1) := by decide +kernel
theorem dL_law_677 : decode cL_law 677 = .ok (.iload_n 3, 1) := by decide +kernel
theorem dL_law_678 : decode cL_law 678 = .ok (.iconst 3, 1) := by decide +kernel
theorem dL_law_679 : decode cL_law 679 = .ok (.iadd, 1) := by decide +kernel
theorem dL_law_680 : decode cL_law 680 = .ok (.iaload, 1) := by decide +kernel
theorem dL_law_681 : decode cL_law 681 = .ok (.aload_n 0, 1) := by decide +kernel
theorem dL_law_682 : decode cL_law 682 = .ok (.iload_n 3, 1) := by decide +kernel
theorem dL_law_683 : decode cL_law 683 = .ok (.iconst 4, 1) := by decide +kernel
theorem dL_law_684 : decode cL_law 684 = .ok (.iadd, 1) := by decide +kernel
theorem dL_law_685 : decode cL_law 685 = .ok (.iaload, 1) := by decide +kernel
theorem dL_law_686 : decode cL_law 686 = .ok (.invokevirtual 75, 3) := by decide +kernel
theorem dL_law_689 : decode cL_law 689 = .ok (.aload_n 2, 1) := by decide +kernel
theorem dL_law_690 : decode cL_law 690 = .ok (.aload_n 0, 1) := by decide +kernel
theorem dL_law_691 : decode cL_law 691 = .ok (.iload_n 3, 1) := by decide +kernel
theorem dL_law_692 : decode cL_law 692 = .ok (.iconst 1, 1) := by decide +kernel
theorem dL_law_693 : decode cL_law 693 = .ok (.iadd, 1) := by decide +kernel
theorem dL_law_694 : decode cL_law 694 = .ok (.iaload, 1) := by decide +kernel
theorem dL_law_695 : decode cL_law 695 = .ok (.aload_n 0, 1) := by decide +kernel
theorem dL_law_696 : decode cL_law 696 = .ok (.iload_n 3, 1) := by decide +kernel
theorem dL_law_697 : decode cL_law 697 = .ok (.iconst 2, 1) := by decide +kernel
theorem dL_law_698 : decode cL_law 698 = .ok (.iadd, 1) := by decide +kernel
theorem dL_law_699 : decode cL_law 699 = .ok (.iaload, 1) := by decide +kernel
theorem dL_law_700 : decode cL_law 700 = .ok (.aload_n 0, 1) := by decide +kernel
theorem dL_law_701 : decode cL_law 701 = .ok (.iload_n 3, 1) := by decide +kernel
theorem dL_law_702 : decode cL_law 702 = .ok (.iconst 3, 1) := by decide +kernel
theorem dL_law_703 : decode cL_law 703 = .ok (.iadd, 1) := by decide +kernel
theorem dL_law_704 : decode cL_law 704 = .ok (.iaload, 1) := by decide +kernel
theorem dL_law_705 : decode cL_law 705 = .ok (.aload_n 0, 1) := by decide +kernel
theorem dL_law_706 : decode cL_law 706 = .ok (.iload_n 3, 1) := by decide +kernel
theorem dL_law_707 : decode cL_law 707 = .ok (.iconst 4, 1) := by decide +kernel
theorem dL_law_708 : decode cL_law 708 = .ok (.iadd, 1) := by decide +kernel
theorem dL_law_709 : decode cL_law 709 = .ok (.iaload, 1) := by decide +kernel
theorem dL_law_710 : decode cL_law 710 = .ok (.invokevirtual 79, 3) := by decide +kernel
theorem dL_law_713 : decode cL_law 713 = .ok (.lcmp, 1) := by decide +kernel
theorem dL_law_714 : decode cL_law 714 = .ok (.ifCond .eq 427, 3) := by decide +kernel
theorem dL_law_717 : decode cL_law 717 = .ok (.iconst 0, 1) := by decide +kernel
theorem dL_law_718 : decode cL_law 718 = .ok (.ireturn, 1) := by decide +kernel
theorem dL_law_719 : decode cL_law 719 = .ok (.aload_n 1, 1) := by decide +kernel
theorem dL_law_720 : decode cL_law 720 = .ok (.aload_n 0, 1) := by decide +kernel
theorem dL_law_721 : decode cL_law 721 = .ok (.iload_n 3, 1) := by decide +kernel
theorem dL_law_722 : decode cL_law 722 = .ok (.iconst 1, 1) := by decide +kernel
theorem dL_law_723 : decode cL_law 723 = .ok (.iadd, 1) := by decide +kernel
theorem dL_law_724 : decode cL_law 724 = .ok (.iaload, 1) := by decide +kernel
theorem dL_law_725 : decode cL_law 725 = .ok (.invokevirtual 80, 3) := by decide +kernel
theorem dL_law_728 : decode cL_law 728 = .ok (.aload_n 2, 1) := by decide +kernel
theorem dL_law_729 : decode cL_law 729 = .ok (.aload_n 0, 1) := by decide +kernel
theorem dL_law_730 : decode cL_law 730 = .ok (.iload_n 3, 1) := by decide +kernel
theorem dL_law_731 : decode cL_law 731 = .ok (.iconst 1, 1) := by decide +kernel
theorem dL_law_732 : decode cL_law 732 = .ok (.iadd, 1) := by decide +kernel
theorem dL_law_733 : decode cL_law 733 = .ok (.iaload, 1) := by decide +kernel
theorem dL_law_734 : decode cL_law 734 = .ok (.invokevirtual 83, 3) := by decide +kernel
theorem dL_law_737 : decode cL_law 737 = .ok (.if_icmp .eq 404, 3) := by decide +kernel
theorem dL_law_740 : decode cL_law 740 = .ok (.iconst 0, 1) := by decide +kernel
theorem dL_law_741 : decode cL_law 741 = .ok (.ireturn, 1) := by decide +kernel
theorem dL_law_742 : decode cL_law 742 = .ok (.aload_n 1, 1) := by decide +kernel
theorem dL_law_743 : decode cL_law 743 = .ok (.invokevirtual 84, 3) := by decide +kernel
theorem dL_law_746 : decode cL_law 746 = .ok (.aload_n 2, 1) := by decide +kernel
theorem dL_law_747 : decode cL_law 747 = .ok (.invokevirtual 88, 3) := by decide +kernel
theorem dL_law_750 : decode cL_law 750 = .ok (.if_icmp .eq 391, 3) := by decide +kernel
theorem dL_law_753 : decode cL_law 753 = .ok (.iconst 0, 1) := by decide +kernel
theorem dL_law_754 : decode cL_law 754 = .ok (.ireturn, 1) := by decide +kernel
theorem dL_law_755 : decode cL_law 755 = .ok (.aload_n 1, 1) := by decide +kernel
theorem dL_law_756 : decode cL_law 756 = .ok (.aload_n 0, 1) := by decide +kernel
theorem dL_law_757 : decode cL_law 757 = .ok (.iload_n 3, 1) := by decide +kernel
theorem dL_law_758 : decode cL_law 758 = .ok (.iconst 1, 1) := by decide +kernel
theorem dL_law_759 : decode cL_law 759 = .ok (.iadd, 1) := by decide +kernel
theorem dL_law_760 : decode cL_law 760 = .ok (.iaload, 1) := by decide +kernel
theorem dL_law_761 : decode cL_law 761 = .ok (.invokevirtual 89, 3) := by decide +kernel
theorem dL_law_764 : decode cL_law 764 = .ok (.aload_n 2, 1) := by decide +kernel
theorem dL_law_765 : decode cL_law 765 = .ok (.aload_n 0, 1) := by decide +kernel
theorem dL_law_766 : decode cL_law 766 = .ok (.iload_n 3, 1) := by decide +kernel
theorem dL_law_767 : decode cL_law 767 = .ok (.iconst 1, 1) := by decide +kernel
theorem dL_law_768 : decode cL_law 768 = .ok (.iadd, 1) := by decide +kernel
theorem dL_law_769 : decode cL_law 769 = .ok (.iaload, 1) := by decide +kernel
theorem dL_law_770 : decode cL_law 770 = .ok (.invokevirtual 92, 3) := by decide +kernel
theorem dL_law_773 : decode cL_law 773 = .ok (.if_icmp .eq 368, 3) := by decide +kernel
theorem dL_law_776 : decode cL_law 776 = .ok (.iconst 0, 1) := by decide +kernel
theorem dL_law_777 : decode cL_law 777 = .ok (.ireturn, 1) := by decide +kernel
theorem dL_law_778 : decode cL_law 778 = .ok (.aload_n 1, 1) := by decide +kernel
theorem dL_law_779 : decode cL_law 779 = .ok (.aload_n 0, 1) := by decide +kernel
theorem dL_law_780 : decode cL_law 780 = .ok (.iload_n 3, 1) := by decide +kernel
theorem dL_law_781 : decode cL_law 781 = .ok (.iconst 1, 1) := by decide +kernel
theorem dL_law_782 : decode cL_law 782 = .ok (.iadd, 1) := by decide +kernel
theorem dL_law_783 : decode cL_law 783 = .ok (.iaload, 1) := by decide +kernel
theorem dL_law_784 : decode cL_law 784 = .ok (.aload_n 0, 1) := by decide +kernel
theorem dL_law_785 : decode cL_law 785 = .ok (.iload_n 3, 1) := by decide +kernel
theorem dL_law_786 : decode cL_law 786 = .ok (.iconst 2, 1) := by decide +kernel
theorem dL_law_787 : decode cL_law 787 = .ok (.iadd, 1) := by decide +kernel
theorem dL_law_788 : decode cL_law 788 = .ok (.iaload, 1) := by decide +kernel
theorem dL_law_789 : decode cL_law 789 = .ok (.invokevirtual 93, 3) := by decide +kernel
theorem dL_law_792 : decode cL_law 792 = .ok (.aload_n 2, 1) := by decide +kernel
theorem dL_law_793 : decode cL_law 793 = .ok (.aload_n 0, 1) := by decide +kernel
theorem dL_law_794 : decode cL_law 794 = .ok (.iload_n 3, 1) := by decide +kernel
theorem dL_law_795 : decode cL_law 795 = .ok (.iconst 1, 1) := by decide +kernel
theorem dL_law_796 : decode cL_law 796 = .ok (.iadd, 1) := by decide +kernel
theorem dL_law_797 : decode cL_law 797 = .ok (.iaload, 1) := by decide +kernel
theorem dL_law_798 : decode cL_law 798 = .ok (.aload_n 0, 1) := by decide +kernel
theorem dL_law_799 : decode cL_law 799 = .ok (.iload_n 3, 1) := by decide +kernel
theorem dL_law_800 : decode cL_law 800 = .ok (.iconst 2, 1) := by decide +kernel
theorem dL_law_801 : decode cL_law 801 = .ok (.iadd, 1) := by decide +kernel
theorem dL_law_802 : decode cL_law 802 = .ok (.iaload, 1) := by decide +kernel
theorem dL_law_803 : decode cL_law 803 = .ok (.invokevirtual 97, 3) := by decide +kernel
theorem dL_law_806 : decode cL_law 806 = .ok (.lcmp, 1) := by decide +kernel
theorem dL_law_807 : decode cL_law 807 = .ok (.ifCond .eq 334, 3) := by decide +kernel
theorem dL_law_810 : decode cL_law 810 = .ok (.iconst 0, 1) := by decide +kernel
theorem dL_law_811 : decode cL_law 811 = .ok (.ireturn, 1) := by decide +kernel
theorem dL_law_812 : decode cL_law 812 = .ok (.aload_n 1, 1) := by decide +kernel
theorem dL_law_813 : decode cL_law 813 = .ok (.aload_n 0, 1) := by decide +kernel
theorem dL_law_814 : decode cL_law 814 = .ok (.iload_n 3, 1) := by decide +kernel
theorem dL_law_815 : decode cL_law 815 = .ok (.iconst 1, 1) := by decide +kernel
theorem dL_law_816 : decode cL_law 816 = .ok (.iadd, 1) := by decide +kernel
theorem dL_law_817 : decode cL_law 817 = .ok (.iaload, 1) := by decide +kernel
theorem dL_law_818 : decode cL_law 818 = .ok (.invokevirtual 98, 3) := by decide +kernel
theorem dL_law_821 : decode cL_law 821 = .ok (.aload_n 2, 1) := by decide +kernel
theorem dL_law_822 : decode cL_law 822 = .ok (.aload_n 0, 1) := by decide +kernel
theorem dL_law_823 : decode cL_law 823 = .ok (.iload_n 3, 1) := by decide +kernel
theorem dL_law_824 : decode cL_law 824 = .ok (.iconst 1, 1) := by decide +kernel
theorem dL_law_825 : decode cL_law 825 = .ok (.iadd, 1) := by decide +kernel
theorem dL_law_826 : decode cL_law 826 = .ok (.iaload, 1) := by decide +kernel
theorem dL_law_827 : decode cL_law 827 = .ok (.invokevirtual 102, 3) := by decide +kernel
theorem dL_law_830 : decode cL_law 830 = .ok (.lcmp, 1) := by decide +kernel
theorem dL_law_831 : decode cL_law 831 = .ok (.ifCond .eq 310, 3) := by decide +kernel
theorem dL_law_834 : decode cL_law 834 = .ok (.iconst 0, 1) := by decide +kernel
theorem dL_law_835 : decode cL_law 835 = .ok (.ireturn, 1) := by decide +kernel
theorem dL_law_836 : decode cL_law 836 = .ok (.aload_n 1, 1) := by decide +kernel
theorem dL_law_837 : decode cL_law 837 = .ok (.aload_n 0, 1) := by decide +kernel
theorem dL_law_838 : decode cL_law 838 = .ok (.iload_n 3, 1) := by decide +kernel
theorem dL_law_839 : decode cL_law 839 = .ok (.iconst 1, 1) := by decide +kernel
theorem dL_law_840 : decode cL_law 840 = .ok (.iadd, 1) := by decide +kernel
theorem dL_law_841 : decode cL_law 841 = .ok (.iaload, 1) := by decide +kernel
theorem dL_law_842 : decode cL_law 842 = .ok (.invokevirtual 103, 3) := by decide +kernel
theorem dL_law_845 : decode cL_law 845 = .ok (.aload_n 2, 1) := by decide +kernel
theorem dL_law_846 : decode cL_law 846 = .ok (.aload_n 0, 1) := by decide +kernel
theorem dL_law_847 : decode cL_law 847 = .ok (.iload_n 3, 1) := by decide +kernel
theorem dL_law_848 : decode cL_law 848 = .ok (.iconst 1, 1) := by decide +kernel
theorem dL_law_849 : decode cL_law 849 = .ok (.iadd, 1) := by decide +kernel
theorem dL_law_850 : decode cL_law 850 = .ok (.iaload, 1) := by decide +kernel
theorem dL_law_851 : decode cL_law 851 = .ok (.invokevirtual 106, 3) := by decide +kernel
theorem dL_law_854 : decode cL_law 854 = .ok (.if_icmp .eq 287, 3) := by decide +kernel
theorem dL_law_857 : decode cL_law 857 = .ok (.iconst 0, 1) := by decide +kernel
theorem dL_law_858 : decode cL_law 858 = .ok (.ireturn, 1) := by decide +kernel
theorem dL_law_859 : decode cL_law 859 = .ok (.aload_n 1, 1) := by decide +kernel
theorem dL_law_860 : decode cL_law 860 = .ok (.aload_n 0, 1) := by decide +kernel
theorem dL_law_861 : decode cL_law 861 = .ok (.iload_n 3, 1) := by decide +kernel
theorem dL_law_862 : decode cL_law 862 = .ok (.iconst 1, 1) := by decide +kernel
theorem dL_law_863 : decode cL_law 863 = .ok (.iadd, 1) := by decide +kernel
theorem dL_law_864 : decode cL_law 864 = .ok (.iaload, 1) := by decide +kernel
theorem dL_law_865 : decode cL_law 865 = .ok (.invokevirtual 107, 3) := by decide +kernel
theorem dL_law_868 : decode cL_law 868 = .ok (.aload_n 2, 1) := by decide +kernel
theorem dL_law_869 : decode cL_law 869 = .ok (.aload_n 0, 1) := by decide +kernel
theorem dL_law_870 : decode cL_law 870 = .ok (.iload_n 3, 1) := by decide +kernel
theorem dL_law_871 : decode cL_law 871 = .ok (.iconst 1, 1) := by decide +kernel
theorem dL_law_872 : decode cL_law 872 = .ok (.iadd, 1) := by decide +kernel
theorem dL_law_873 : decode cL_law 873 = .ok (.iaload, 1) := by decide +kernel
theorem dL_law_874 : decode cL_law 874 = .ok (.invokevirtual 110, 3) := by decide +kernel
theorem dL_law_877 : decode cL_law 877 = .ok (.if_icmp .eq 264, 3) := by decide +kernel
theorem dL_law_880 : decode cL_law 880 = .ok (.iconst 0, 1) := by decide +kernel
theorem dL_law_881 : decode cL_law 881 = .ok (.ireturn, 1) := by decide +kernel
theorem dL_law_882 : decode cL_law 882 = .ok (.aload_n 1, 1) := by decide +kernel
theorem dL_law_883 : decode cL_law 883 = .ok (.invokevirtual 111, 3) := by decide +kernel
theorem dL_law_886 : decode cL_law 886 = .ok (.aload_n 2, 1) := by decide +kernel
theorem dL_law_887 : decode cL_law 887 = .ok (.invokevirtual 114, 3) := by decide +kernel
theorem dL_law_890 : decode cL_law 890 = .ok (.if_icmp .eq 251, 3) := by decide +kernel
theorem dL_law_893 : decode cL_law 893 = .ok (.iconst 0, 1) := by decide +kernel
theorem dL_law_894 : decode cL_law 894 = .ok (.ireturn, 1) := by decide +kernel
theorem dL_law_895 : decode cL_law 895 = .ok (.aload_n 1, 1) := by decide +kernel
theorem dL_law_896 : decode cL_law 896 = .ok (.aload_n 0, 1) := by decide +kernel
theorem dL_law_897 : decode cL_law 897 = .ok (.iload_n 3, 1) := by decide +kernel
theorem dL_law_898 : decode cL_law 898 = .ok (.iconst 1, 1) := by decide +kernel
theorem dL_law_899 : decode cL_law 899 = .ok (.iadd, 1) := by decide +kernel
theorem dL_law_900 : decode cL_law 900 = .ok (.iaload, 1) := by decide +kernel
theorem dL_law_901 : decode cL_law 901 = .ok (.aload_n 0, 1) := by decide +kernel
theorem dL_law_902 : decode cL_law 902 = .ok (.iload_n 3, 1) := by decide +kernel
theorem dL_law_903 : decode cL_law 903 = .ok (.iconst 2, 1) := by decide +kernel
theorem dL_law_904 : decode cL_law 904 = .ok (.iadd, 1) := by decide +kernel
theorem dL_law_905 : decode cL_law 905 = .ok (.iaload, 1) := by decide +kernel
theorem dL_law_906 : decode cL_law 906 = .ok (.invokevirtual 115, 3) := by decide +kernel
theorem dL_law_909 : decode cL_law 909 = .ok (.aload_n 2, 1) := by decide +kernel
theorem dL_law_910 : decode cL_law 910 = .ok (.aload_n 0, 1) := by decide +kernel
theorem dL_law_911 : decode cL_law 911 = .ok (.iload_n 3, 1) := by decide +kernel
theorem dL_law_912 : decode cL_law 912 = .ok (.iconst 1, 1) := by decide +kernel
theorem dL_law_913 : decode cL_law 913 = .ok (.iadd, 1) := by decide +kernel
theorem dL_law_914 : decode cL_law 914 = .ok (.iaload, 1) := by decide +kernel
theorem dL_law_915 : decode cL_law 915 = .ok (.aload_n 0, 1) := by decide +kernel
theorem dL_law_916 : decode cL_law 916 = .ok (.iload_n 3, 1) := by decide +kernel
theorem dL_law_917 : decode cL_law 917 = .ok (.iconst 2, 1) := by decide +kernel
theorem dL_law_918 : decode cL_law 918 = .ok (.iadd, 1) := by decide +kernel
theorem dL_law_919 : decode cL_law 919 = .ok (.iaload, 1) := by decide +kernel
theorem dL_law_920 : decode cL_law 920 = .ok (.invokevirtual 118, 3) := by decide +kernel
theorem dL_law_923 : decode cL_law 923 = .ok (.if_icmp .eq 218, 3) := by decide +kernel
theorem dL_law_926 : decode cL_law 926 = .ok (.iconst 0, 1) := by decide +kernel
theorem dL_law_927 : decode cL_law 927 = .ok (.ireturn, 1) := by decide +kernel
theorem dL_law_928 : decode cL_law 928 = .ok (.aload_n 1, 1) := by decide +kernel
theorem dL_law_929 : decode cL_law 929 = .ok (.invokevirtual 119, 3) := by decide +kernel
theorem dL_law_932 : decode cL_law 932 = .ok (.aload_n 2, 1) := by decide +kernel
theorem dL_law_933 : decode cL_law 933 = .ok (.invokevirtual 122, 3) := by decide +kernel
theorem dL_law_936 : decode cL_law 936 = .ok (.if_icmp .eq 205, 3) := by decide +kernel
theorem dL_law_939 : decode cL_law 939 = .ok (.iconst 0, 1) := by decide +kernel
theorem dL_law_940 : decode cL_law 940 = .ok (.ireturn, 1) := by decide +kernel
theorem dL_law_941 : decode cL_law 941 = .ok (.aload_n 1, 1) := by decide +kernel
theorem dL_law_942 : decode cL_law 942 = .ok (.aload_n 0, 1) := by decide +kernel
theorem dL_law_943 : decode cL_law 943 = .ok (.iload_n 3, 1) := by decide +kernel
theorem dL_law_944 : decode cL_law 944 = .ok (.iconst 1, 1) := by decide +kernel
theorem dL_law_945 : decode cL_law 945 = .ok (.iadd, 1) := by decide +kernel
theorem dL_law_946 : decode cL_law 946 = .ok (.iaload, 1) := by decide +kernel
theorem dL_law_947 : decode cL_law 947 = .ok (.invokevirtual 123, 3) := by decide +kernel
theorem dL_law_950 : decode cL_law 950 = .ok (.aload_n 2, 1) := by decide +kernel
theorem dL_law_951 : decode cL_law 951 = .ok (.aload_n 0, 1) := by decide +kernel
theorem dL_law_952 : decode cL_law 952 = .ok (.iload_n 3, 1) := by decide +kernel
theorem dL_law_953 : decode cL_law 953 = .ok (.iconst 1, 1) := by decide +kernel
theorem dL_law_954 : decode cL_law 954 = .ok (.iadd, 1) := by decide +kernel
theorem dL_law_955 : decode cL_law 955 = .ok (.iaload, 1) := by decide +kernel
theorem dL_law_956 : decode cL_law 956 = .ok (.invokevirtual 126, 3) := by decide +kernel
theorem dL_law_959 : decode cL_law 959 = .ok (.if_icmp .eq 182, 3) := by decide +kernel
theorem dL_law_962 : decode cL_law 962 = .ok (.iconst 0, 1) := by decide +kernel
theorem dL_law_963 : decode cL_law 963 = .ok (.ireturn, 1) := by decide +kernel
theorem dL_law_964 : decode cL_law 964 = .ok (.aload_n 1, 1) := by decide +kernel
theorem dL_law_965 : decode cL_law 965 = .ok (.aload_n 0, 1) := by decide +kernel
theorem dL_law_966 : decode cL_law 966 = .ok (.iload_n 3, 1) := by decide +kernel
theorem dL_law_967 : decode cL_law 967 = .ok (.iconst 1, 1) := by decide +kernel
theorem dL_law_968 : decode cL_law 968 = .ok (.iadd, 1) := by decide +kernel
theorem dL_law_969 : decode cL_law 969 = .ok (.iaload, 1) := by decide +kernel
theorem dL_law_970 : decode cL_law 970 = .ok (.aload_n 0, 1) := by decide +kernel
theorem dL_law_971 : decode cL_law 971 = .ok (.iload_n 3, 1) := by decide +kernel
theorem dL_law_972 : decode cL_law 972 = .ok (.iconst 2, 1) := by decide +kernel
theorem dL_law_973 : decode cL_law 973 = .ok (.iadd, 1) := by decide +kernel
theorem dL_law_974 : decode cL_law 974 = .ok (.iaload, 1) := by decide +kernel
theorem dL_law_975 : decode cL_law 975 = .ok (.invokevirtual 127, 3) := by decide +kernel
theorem dL_law_978 : decode cL_law 978 = .ok (.aload_n 2, 1) := by decide +kernel
theorem dL_law_979 : decode cL_law 979 = .ok (.aload_n 0, 1) := by decide +kernel
theorem dL_law_980 : decode cL_law 980 = .ok (.iload_n 3, 1) := by decide +kernel
theorem dL_law_981 : decode cL_law 981 = .ok (.iconst 1, 1) := by decide +kernel
theorem dL_law_982 : decode cL_law 982 = .ok (.iadd, 1) := by decide +kernel
theorem dL_law_983 : decode cL_law 983 = .ok (.iaload, 1) := by decide +kernel
theorem dL_law_984 : decode cL_law 984 = .ok (.aload_n 0, 1) := by decide +kernel
theorem dL_law_985 : decode cL_law 985 = .ok (.iload_n 3, 1) := by decide +kernel
theorem dL_law_986 : decode cL_law 986 = .ok (.iconst 2, 1) := by decide +kernel
theorem dL_law_987 : decode cL_law 987 = .ok (.iadd, 1) := by decide +kernel
theorem dL_law_988 : decode cL_law 988 = .ok (.iaload, 1) := by decide +kernel
theorem dL_law_989 : decode cL_law 989 = .ok (.invokevirtual 130, 3) := by decide +kernel
theorem dL_law_992 : decode cL_law 992 = .ok (.if_icmp .eq 149, 3) := by decide +kernel
theorem dL_law_995 : decode cL_law 995 = .ok (.iconst 0, 1) := by decide +kernel
theorem dL_law_996 : decode cL_law 996 = .ok (.ireturn, 1) := by decide +kernel
theorem dL_law_997 : decode cL_law 997 = .ok (.aload_n 1, 1) := by decide +kernel
theorem dL_law_998 : decode cL_law 998 = .ok (.aload_n 0, 1) := by decide +kernel
theorem dL_law_999 : decode cL_law 999 = .ok (.iload_n 3, 1) := by decide +kernel
theorem dL_law_1000 : decode cL_law 1000 = .ok (.iconst 1, 1) := by decide +kernel
theorem dL_law_1001 : decode cL_law 1001 = .ok (.iadd, 1) := by decide +kernel
theorem dL_law_1002 : decode cL_law 1002 = .ok (.iaload, 1) := by decide +kernel
theorem dL_law_1003 : decode cL_law 1003 = .ok (.aload_n 0, 1) := by decide +kernel
theorem dL_law_1004 : decode cL_law 1004 = .ok (.iload_n 3, 1) := by decide +kernel
theorem dL_law_1005 : decode cL_law 1005 = .ok (.iconst 2, 1) := by decide +kernel
theorem dL_law_1006 : decode cL_law 1006 = .ok (.iadd, 1) := by decide +kernel
theorem dL_law_1007 : decode cL_law 1007 = .ok (.iaload, 1) := by decide +kernel
theorem dL_law_1008 : decode cL_law 1008 = .ok (.invokevirtual 131, 3) := by decide +kernel
theorem dL_law_1011 : decode cL_law 1011 = .ok (.aload_n 2, 1) := by decide +kernel
theorem dL_law_1012 : decode cL_law 1012 = .ok (.aload_n 0, 1) := by decide +kernel
theorem dL_law_1013 : decode cL_law 1013 = .ok (.iload_n 3, 1) := by decide +kernel
theorem dL_law_1014 : decode cL_law 1014 = .ok (.iconst 1, 1) := by decide +kernel
theorem dL_law_1015 : decode cL_law 1015 = .ok (.iadd, 1) := by decide +kernel
theorem dL_law_1016 : decode cL_law 1016 = .ok (.iaload, 1) := by decide +kernel
theorem dL_law_1017 : decode cL_law 1017 = .ok (.aload_n 0, 1) := by decide +kernel
theorem dL_law_1018 : decode cL_law 1018 = .ok (.iload_n 3, 1) := by decide +kernel
theorem dL_law_1019 : decode cL_law 1019 = .ok (.iconst 2, 1) := by decide +kernel
theorem dL_law_1020 : decode cL_law 1020 = .ok (.iadd, 1) := by decide +kernel
theorem dL_law_1021 : decode cL_law 1021 = .ok (.iaload, 1) := by decide +kernel
theorem dL_law_1022 : decode cL_law 1022 = .ok (.invokevirtual 134, 3) := by decide +kernel
theorem dL_law_1025 : decode cL_law 1025 = .ok (.if_icmp .eq 116, 3) := by decide +kernel
theorem dL_law_1028 : decode cL_law 1028 = .ok (.iconst 0, 1) := by decide +kernel
theorem dL_law_1029 : decode cL_law 1029 = .ok (.ireturn, 1) := by decide +kernel
theorem dL_law_1030 : decode cL_law 1030 = .ok (.aload_n 1, 1) := by decide +kernel
theorem dL_law_1031 : decode cL_law 1031 = .ok (.aload_n 0, 1) := by decide +kernel
theorem dL_law_1032 : decode cL_law 1032 = .ok (.iload_n 3, 1) := by decide +kernel
theorem dL_law_1033 : decode cL_law 1033 = .ok (.iconst 1, 1) := by decide +kernel
theorem dL_law_1034 : decode cL_law 1034 = .ok (.iadd, 1) := by decide +kernel
theorem dL_law_1035 : decode cL_law 1035 = .ok (.iaload, 1) := by decide +kernel
theorem dL_law_1036 : decode cL_law 1036 = .ok (.aload_n 0, 1) := by decide +kernel
theorem dL_law_1037 : decode cL_law 1037 = .ok (.iload_n 3, 1) := by decide +kernel
theorem dL_law_1038 : decode cL_law 1038 = .ok (.iconst 2, 1) := by decide +kernel
theorem dL_law_1039 : decode cL_law 1039 = .ok (.iadd, 1) := by decide +kernel
theorem dL_law_1040 : decode cL_law 1040 = .ok (.iaload, 1) := by decide +kernel
theorem dL_law_1041 : decode cL_law 1041 = .ok (.aload_n 0, 1) := by decide +kernel
theorem dL_law_1042 : decode cL_law 1042 = .ok (.iload_n 3, 1) := by decide +kernel
theorem dL_law_1043 : decode cL_law 1043 = .ok (.iconst 3, 1) := by decide +kernel
theorem dL_law_1044 : decode cL_law 1044 = .ok (.iadd, 1) := by decide +kernel
theorem dL_law_1045 : decode cL_law 1045 = .ok (.iaload, 1) := by decide +kernel
theorem dL_law_1046 : decode cL_law 1046 = .ok (.aload_n 0, 1) := by decide +kernel
theorem dL_law_1047 : decode cL_law 1047 = .ok (.iload_n 3, 1) := by decide +kernel
theorem dL_law_1048 : decode cL_law 1048 = .ok (.iconst 4, 1) := by decide +kernel
theorem dL_law_1049 : decode cL_law 1049 = .ok (.iadd, 1) := by decide +kernel
theorem dL_law_1050 : decode cL_law 1050 = .ok (.iaload, 1) := by decide +kernel
theorem dL_law_1051 : decode cL_law 1051 = .ok (.aload_n 0, 1) := by decide +kernel
theorem dL_law_1052 : decode cL_law 1052 = .ok (.iload_n 3, 1) := by decide +kernel
theorem dL_law_1053 : decode cL_law 1053 = .ok (.iconst 5, 1) := by decide +kernel
theorem dL_law_1054 : decode cL_law 1054 = .ok (.iadd, 1) := by decide +kernel
theorem dL_law_1055 : decode cL_law 1055 = .ok (.iaload, 1) := by decide +kernel
theorem dL_law_1056 : decode cL_law 1056 = .ok (.aload_n 0, 1) := by decide +kernel
theorem dL_law_1057 : decode cL_law 1057 = .ok (.iload_n 3, 1) := by decide +kernel
theorem dL_law_1058 : decode cL_law 1058 = .ok (.bipush 6, 2) := by decide +kernel
theorem dL_law_1060 : decode cL_law 1060 = .ok (.iadd, 1) := by decide +kernel
theorem dL_law_1061 : decode cL_law 1061 = .ok (.iaload, 1) := by decide +kernel
theorem dL_law_1062 : decode cL_law 1062 = .ok (.invokevirtual 135, 3) := by decide +kernel
theorem dL_law_1065 : decode cL_law 1065 = .ok (.aload_n 2, 1) := by decide +kernel
theorem dL_law_1066 : decode cL_law 1066 = .ok (.aload_n 0, 1) := by decide +kernel
theorem dL_law_1067 : decode cL_law 1067 = .ok (.iload_n 3, 1) := by decide +kernel
theorem dL_law_1068 : decode cL_law 1068 = .ok (.iconst 1, 1) := by decide +kernel
theorem dL_law_1069 : decode cL_law 1069 = .ok (.iadd, 1) := by decide +kernel
theorem dL_law_1070 : decode cL_law 1070 = .ok (.iaload, 1) := by decide +kernel
theorem dL_law_1071 : decode cL_law 1071 = .ok (.aload_n 0, 1) := by decide +kernel
theorem dL_law_1072 : decode cL_law 1072 = .ok (.iload_n 3, 1) := by decide +kernel
theorem dL_law_1073 : decode cL_law 1073 = .ok (.iconst 2, 1) := by decide +kernel
theorem dL_law_1074 : decode cL_law 1074 = .ok (.iadd, 1) := by decide +kernel
theorem dL_law_1075 : decode cL_law 1075 = .ok (.iaload, 1) := by decide +kernel
theorem dL_law_1076 : decode cL_law 1076 = .ok (.aload_n 0, 1) := by decide +kernel
theorem dL_law_1077 : decode cL_law 1077 = .ok (.iload_n 3, 1) := by decide +kernel
theorem dL_law_1078 : decode cL_law 1078 = .ok (.iconst 3, 1) := by decide +kernel
theorem dL_law_1079 : decode cL_law 1079 = .ok (.iadd, 1) := by decide +kernel
theorem dL_law_1080 : decode cL_law 1080 = .ok (.iaload, 1) := by decide +kernel
theorem dL_law_1081 : decode cL_law 1081 = .ok (.aload_n 0, 1) := by decide +kernel
theorem dL_law_1082 : decode cL_law 1082 = .ok (.iload_n 3, 1) := by decide +kernel
theorem dL_law_1083 : decode cL_law 1083 = .ok (.iconst 4, 1) := by decide +kernel
theorem dL_law_1084 : decode cL_law 1084 = .ok (.iadd, 1) := by decide +kernel
theorem dL_law_1085 : decode cL_law 1085 = .ok (.iaload, 1) := by decide +kernel
theorem dL_law_1086 : decode cL_law 1086 = .ok (.aload_n 0, 1) := by decide +kernel
theorem dL_law_1087 : decode cL_law 1087 = .ok (.iload_n 3, 1) := by decide +kernel
theorem dL_law_1088 : decode cL_law 1088 = .ok (.iconst 5, 1) := by decide +kernel
theorem dL_law_1089 : decode cL_law 1089 = .ok (.iadd, 1) := by decide +kernel
theorem dL_law_1090 : decode cL_law 1090 = .ok (.iaload, 1) := by decide +kernel
theorem dL_law_1091 : decode cL_law 1091 = .ok (.aload_n 0, 1) := by decide +kernel
theorem dL_law_1092 : decode cL_law 1092 = .ok (.iload_n 3, 1) := by decide +kernel
theorem dL_law_1093 : decode cL_law 1093 = .ok (.bipush 6, 2) := by decide +kernel
theorem dL_law_1095 : decode cL_law 1095 = .ok (.iadd, 1) := by decide +kernel
theorem dL_law_1096 : decode cL_law 1096 = .ok (.iaload, 1) := by decide +kernel
theorem dL_law_1097 : decode cL_law 1097 = .ok (.invokevirtual 139, 3) := by decide +kernel
theorem dL_law_1100 : decode cL_law 1100 = .ok (.if_icmp .eq 41, 3) := by decide +kernel
theorem dL_law_1103 : decode cL_law 1103 = .ok (.iconst 0, 1) := by decide +kernel
theorem dL_law_1104 : decode cL_law 1104 = .ok (.ireturn, 1) := by decide +kernel
theorem dL_law_1105 : decode cL_law 1105 = .ok (.aload_n 1, 1) := by decide +kernel
theorem dL_law_1106 : decode cL_law 1106 = .ok (.aload_n 0, 1) := by decide +kernel
theorem dL_law_1107 : decode cL_law 1107 = .ok (.iload_n 3, 1) := by decide +kernel
theorem dL_law_1108 : decode cL_law 1108 = .ok (.iconst 1, 1) := by decide +kernel
theorem dL_law_1109 : decode cL_law 1109 = .ok (.iadd, 1) := by decide +kernel
theorem dL_law_1110 : decode cL_law 1110 = .ok (.iaload, 1) := by decide +kernel
theorem dL_law_1111 : decode cL_law 1111 = .ok (.invokevirtual 140, 3) := by decide +kernel
theorem dL_law_1114 : decode cL_law 1114 = .ok (.aload_n 2, 1) := by decide +kernel
theorem dL_law_1115 : decode cL_law 1115 = .ok (.aload_n 0, 1) := by decide +kernel
theorem dL_law_1116 : decode cL_law 1116 = .ok (.iload_n 3, 1) := by decide +kernel
theorem dL_law_1117 : decode cL_law 1117 = .ok (.iconst 1, 1) := by decide +kernel
theorem dL_law_1118 : decode cL_law 1118 = .ok (.iadd, 1) := by decide +kernel
theorem dL_law_1119 : decode cL_law 1119 = .ok (.iaload, 1) := by decide +kernel
theorem dL_law_1120 : decode cL_law 1120 = .ok (.invokevirtual 143, 3) := by decide +kernel
theorem dL_law_1123 : decode cL_law 1123 = .ok (.if_icmp .eq 18, 3) := by decide +kernel
theorem dL_law_1126 : decode cL_law 1126 = .ok (.iconst 0, 1) := by decide +kernel
theorem dL_law_1127 : decode cL_law 1127 = .ok (.ireturn, 1) := by decide +kernel
theorem dL_law_1128 : decode cL_law 1128 = .ok (.aload_n 1, 1) := by decide +kernel
theorem dL_law_1129 : decode cL_law 1129 = .ok (.invokevirtual 144, 3) := by decide +kernel
theorem dL_law_1132 : decode cL_law 1132 = .ok (.aload_n 2, 1) := by decide +kernel
theorem dL_law_1133 : decode cL_law 1133 = .ok (.invokevirtual 147, 3) := by decide +kernel
theorem dL_law_1136 : decode cL_law 1136 = .ok (.if_icmp .eq 5, 3) := by decide +kernel
theorem dL_law_1139 : decode cL_law 1139 = .ok (.iconst 0, 1) := by decide +kernel
theorem dL_law_1140 : decode cL_law 1140 = .ok (.ireturn, 1) := by decide +kernel
theorem dL_law_1141 : decode cL_law 1141 = .ok (.iinc 3 7, 3) := by decide +kernel
theorem dL_law_1144 : decode cL_law 1144 = .ok (.goto (-1126), 3) := by decide +kernel
theorem dL_law_1147 : decode cL_law 1147 = .ok (.iconst 1, 1) := by decide +kernel
theorem dL_law_1148 : decode cL_law 1148 = .ok (.ireturn, 1) := by decide +kernel
