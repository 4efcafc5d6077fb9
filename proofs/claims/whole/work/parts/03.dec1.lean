theorem dX0_init_0 : decode cX0_init 0 = .ok (.aload_n 0, 1) := by decide +kernel
theorem dX0_init_1 : decode cX0_init 1 = .ok (.invokespecial 3, 3) := by decide +kernel
theorem dX0_init_4 : decode cX0_init 4 = .ok (.aload_n 0, 1) := by decide +kernel
theorem dX0_init_5 : decode cX0_init 5 = .ok (.aload_n 1, 1) := by decide +kernel
theorem dX0_init_6 : decode cX0_init 6 = .ok (.putfield 9, 3) := by decide +kernel
theorem dX0_init_9 : decode cX0_init 9 = .ok (.aload_n 0, 1) := by decide +kernel
theorem dX0_init_10 : decode cX0_init 10 = .ok (.new 15, 3) := by decide +kernel
theorem dX0_init_13 : decode cX0_init 13 = .ok (.dup, 1) := by decide +kernel
theorem dX0_init_14 : decode cX0_init 14 = .ok (.aload_n 1, 1) := by decide +kernel
theorem dX0_init_15 : decode cX0_init 15 = .ok (.invokespecial 17, 3) := by decide +kernel
theorem dX0_init_18 : decode cX0_init 18 = .ok (.putfield 20, 3) := by decide +kernel
theorem dX0_init_21 : decode cX0_init 21 = .ok (.aload_n 0, 1) := by decide +kernel
theorem dX0_init_22 : decode cX0_init 22 = .ok (.new 24, 3) := by decide +kernel
theorem dX0_init_25 : decode cX0_init 25 = .ok (.dup, 1) := by decide +kernel
theorem dX0_init_26 : decode cX0_init 26 = .ok (.iconst 2, 1) := by decide +kernel
theorem dX0_init_27 : decode cX0_init 27 = .ok (.invokespecial 26, 3) := by decide +kernel
theorem dX0_init_30 : decode cX0_init 30 = .ok (.putfield 29, 3) := by decide +kernel
theorem dX0_init_33 : decode cX0_init 33 = .ok (.aload_n 0, 1) := by decide +kernel
theorem dX0_init_34 : decode cX0_init 34 = .ok (.iconst (-1), 1) := by decide +kernel
theorem dX0_init_35 : decode cX0_init 35 = .ok (.putfield 33, 3) := by decide +kernel
theorem dX0_init_38 : decode cX0_init 38 = .ok (.return_, 1) := by decide +kernel
theorem dX0_findOnce_0 : decode cX0_findOnce 0 = .ok (.aload_n 0, 1) := by decide +kernel
theorem dX0_findOnce_1 : decode cX0_findOnce 1 = .ok (.getfield 33, 3) := by decide +kernel
theorem dX0_findOnce_4 : decode cX0_findOnce 4 = .ok (.aload_n 0, 1) := by decide +kernel
theorem dX0_findOnce_5 : decode cX0_findOnce 5 = .ok (.getfield 9, 3) := by decide +kernel
theorem dX0_findOnce_8 : decode cX0_findOnce 8 = .ok (.getfield 37, 3) := by decide +kernel
theorem dX0_findOnce_11 : decode cX0_findOnce 11 = .ok (.if_icmp .ne 4, 3) := by decide +kernel
theorem dX0_findOnce_14 : decode cX0_findOnce 14 = .ok (.return_, 1) := by decide +kernel
theorem dX0_findOnce_15 : decode cX0_findOnce 15 = .ok (.aload_n 0, 1) := by decide +kernel
theorem dX0_findOnce_16 : decode cX0_findOnce 16 = .ok (.aload_n 0, 1) := by decide +kernel
theorem dX0_findOnce_17 : decode cX0_findOnce 17 = .ok (.getfield 9, 3) := by decide +kernel
theorem dX0_findOnce_20 : decode cX0_findOnce 20 = .ok (.getfield 37, 3) := by decide +kernel
theorem dX0_findOnce_23 : decode cX0_findOnce 23 = .ok (.putfield 33, 3) := by decide +kernel
theorem dX0_findOnce_26 : decode cX0_findOnce 26 = .ok (.aload_n 0, 1) := by decide +kernel
theorem dX0_findOnce_27 : decode cX0_findOnce 27 = .ok (.iconst 0, 1) := by decide +kernel
theorem dX0_findOnce_28 : decode cX0_findOnce 28 = .ok (.putfield 42, 3) := by decide +kernel
theorem dX0_findOnce_31 : decode cX0_findOnce 31 = .ok (.iconst 0, 1) := by decide +kernel
theorem dX0_findOnce_32 : decode cX0_findOnce 32 = .ok (.istore_n 1, 1) := by decide +kernel
theorem dX0_findOnce_33 : decode cX0_findOnce 33 = .ok (.iload_n 1, 1) := by decide +kernel
theorem dX0_findOnce_34 : decode cX0_findOnce 34 = .ok (.aload_n 0, 1) := by decide +kernel
theorem dX0_findOnce_35 : decode cX0_findOnce 35 = .ok (.getfield 9, 3) := by decide +kernel
theorem dX0_findOnce_38 : decode cX0_findOnce 38 = .ok (.getfield 46, 3) := by decide +kernel
theorem dX0_findOnce_41 : decode cX0_findOnce 41 = .ok (.if_icmp .ge 60, 3) := by decide +kernel
theorem dX0_findOnce_44 : decode cX0_findOnce 44 = .ok (.aload_n 0, 1) := by decide +kernel
theorem dX0_findOnce_45 : decode cX0_findOnce 45 = .ok (.getfield 9, 3) := by decide +kernel
theorem dX0_findOnce_48 : decode cX0_findOnce 48 = .ok (.getfield 49, 3) := by decide +kernel
theorem dX0_findOnce_51 : decode cX0_findOnce 51 = .ok (.iload_n 1, 1) := by decide +kernel
theorem dX0_findOnce_52 : decode cX0_findOnce 52 = .ok (.iaload, 1) := by decide +kernel
theorem dX0_findOnce_53 : decode cX0_findOnce 53 = .ok (.istore_n 2, 1) := by decide +kernel
theorem dX0_findOnce_54 : decode cX0_findOnce 54 = .ok (.aload_n 0, 1) := by decide +kernel
theorem dX0_findOnce_55 : decode cX0_findOnce 55 = .ok (.getfield 20, 3) := by decide +kernel
theorem dX0_findOnce_58 : decode cX0_findOnce 58 = .ok (.iload_n 2, 1) := by decide +kernel
theorem dX0_findOnce_59 : decode cX0_findOnce 59 = .ok (.iconst 0, 1) := by decide +kernel
theorem dX0_findOnce_60 : decode cX0_findOnce 60 = .ok (.invokevirtual 53, 3) := by decide +kernel
theorem dX0_findOnce_63 : decode cX0_findOnce 63 = .ok (.iconst 0, 1) := by decide +kernel
theorem dX0_findOnce_64 : decode cX0_findOnce 64 = .ok (.istore_n 3, 1) := by decide +kernel
theorem dX0_findOnce_65 : decode cX0_findOnce 65 = .ok (.iload_n 3, 1) := by decide +kernel
theorem dX0_findOnce_66 : decode cX0_findOnce 66 = .ok (.aload_n 0, 1) := by decide +kernel
theorem dX0_findOnce_67 : decode cX0_findOnce 67 = .ok (.getfield 20, 3) := by decide +kernel
theorem dX0_findOnce_70 : decode cX0_findOnce 70 = .ok (.invokevirtual 57, 3) := by decide +kernel
theorem dX0_findOnce_73 : decode cX0_findOnce 73 = .ok (.if_icmp .ge 22, 3) := by decide +kernel
theorem dX0_findOnce_76 : decode cX0_findOnce 76 = .ok (.aload_n 0, 1) := by decide +kernel
theorem dX0_findOnce_77 : decode cX0_findOnce 77 = .ok (.aload_n 0, 1) := by decide +kernel
theorem dX0_findOnce_78 : decode cX0_findOnce 78 = .ok (.getfield 20, 3) := by decide +kernel
theorem dX0_findOnce_81 : decode cX0_findOnce 81 = .ok (.invokevirtual 61, 3) := by decide +kernel
theorem dX0_findOnce_84 : decode cX0_findOnce 84 = .ok (.iload_n 3, 1) := by decide +kernel
theorem dX0_findOnce_85 : decode cX0_findOnce 85 = .ok (.iload_n 2, 1) := by decide +kernel
theorem dX0_findOnce_86 : decode cX0_findOnce 86 = .ok (.invokevirtual 65, 3) := by decide +kernel
theorem dX0_findOnce_89 : decode cX0_findOnce 89 = .ok (.iinc 3 1, 3) := by decide +kernel
theorem dX0_findOnce_92 : decode cX0_findOnce 92 = .ok (.goto (-27), 3) := by decide +kernel
theorem dX0_findOnce_95 : decode cX0_findOnce 95 = .ok (.iinc 1 1, 3) := by decide +kernel
theorem dX0_findOnce_98 : decode cX0_findOnce 98 = .ok (.goto (-65), 3) := by decide +kernel
theorem dX0_findOnce_101 : decode cX0_findOnce 101 = .ok (.return_, 1) := by decide +kernel
theorem dX0_tell_0 : decode cX0_tell 0 = .ok (.aload_n 0, 1) := by decide +kernel
theorem dX0_tell_1 : decode cX0_tell 1 = .ok (.getfield 42, 3) := by decide +kernel
theorem dX0_tell_4 : decode cX0_tell 4 = .ok (.ifCond .ne 7, 3) := by decide +kernel
theorem dX0_tell_7 : decode cX0_tell 7 = .ok (.ldc2_w 69, 3) := by decide +kernel
theorem dX0_tell_10 : decode cX0_tell 10 = .ok (.lreturn, 1) := by decide +kernel
theorem dX0_tell_11 : decode cX0_tell 11 = .ok (.iload_n 1, 1) := by decide +kernel
theorem dX0_tell_12 : decode cX0_tell 12 = .ok (.iconst 4, 1) := by decide +kernel
theorem dX0_tell_13 : decode cX0_tell 13 = .ok (.if_icmp .eq 8, 3) := by decide +kernel
theorem dX0_tell_16 : decode cX0_tell 16 = .ok (.iload_n 1, 1) := by decide +kernel
theorem dX0_tell_17 : decode cX0_tell 17 = .ok (.iconst 5, 1) := by decide +kernel
theorem dX0_tell_18 : decode cX0_tell 18 = .ok (.if_icmp .ne 7, 3) := by decide +kernel
theorem dX0_tell_21 : decode cX0_tell 21 = .ok (.iconst 1, 1) := by decide +kernel
theorem dX0_tell_22 : decode cX0_tell 22 = .ok (.goto 4, 3) := by decide +kernel
theorem dX0_tell_25 : decode cX0_tell 25 = .ok (.iconst 0, 1) := by decide +kernel
theorem dX0_tell_26 : decode cX0_tell 26 = .ok (.istore_n 2, 1) := by decide +kernel
theorem dX0_tell_27 : decode cX0_tell 27 = .ok (.iload_n 2, 1) := by decide +kernel
theorem dX0_tell_28 : decode cX0_tell 28 = .ok (.ifCond .eq 18, 3) := by decide +kernel
theorem dX0_tell_31 : decode cX0_tell 31 = .ok (.aload_n 0, 1) := by decide +kernel
theorem dX0_tell_32 : decode cX0_tell 32 = .ok (.getfield 71, 3) := by decide +kernel
theorem dX0_tell_35 : decode cX0_tell 35 = .ok (.aload_n 0, 1) := by decide +kernel
theorem dX0_tell_36 : decode cX0_tell 36 = .ok (.getfield 75, 3) := by decide +kernel
theorem dX0_tell_39 : decode cX0_tell 39 = .ok (.iload_n 1, 1) := by decide +kernel
theorem dX0_tell_40 : decode cX0_tell 40 = .ok (.invokestatic 78, 3) := by decide +kernel
theorem dX0_tell_43 : decode cX0_tell 43 = .ok (.goto 38, 3) := by decide +kernel
theorem dX0_tell_46 : decode cX0_tell 46 = .ok (.aload_n 0, 1) := by decide +kernel
theorem dX0_tell_47 : decode cX0_tell 47 = .ok (.getfield 29, 3) := by decide +kernel
theorem dX0_tell_50 : decode cX0_tell 50 = .ok (.getfield 82, 3) := by decide +kernel
theorem dX0_tell_53 : decode cX0_tell 53 = .ok (.iconst 0, 1) := by decide +kernel
theorem dX0_tell_54 : decode cX0_tell 54 = .ok (.laload, 1) := by decide +kernel
theorem dX0_tell_55 : decode cX0_tell 55 = .ok (.aload_n 0, 1) := by decide +kernel
theorem dX0_tell_56 : decode cX0_tell 56 = .ok (.getfield 29, 3) := by decide +kernel
theorem dX0_tell_59 : decode cX0_tell 59 = .ok (.getfield 86, 3) := by decide +kernel
theorem dX0_tell_62 : decode cX0_tell 62 = .ok (.iconst 0, 1) := by decide +kernel
theorem dX0_tell_63 : decode cX0_tell 63 = .ok (.laload, 1) := by decide +kernel
theorem dX0_tell_64 : decode cX0_tell 64 = .ok (.ldc2_w 89, 3) := by decide +kernel
theorem dX0_tell_67 : decode cX0_tell 67 = .ok (.aload_n 0, 1) := by decide +kernel
theorem dX0_tell_68 : decode cX0_tell 68 = .ok (.getfield 29, 3) := by decide +kernel
theorem dX0_tell_71 : decode cX0_tell 71 = .ok (.getfield 91, 3) := by decide +kernel
theorem dX0_tell_74 : decode cX0_tell 74 = .ok (.iconst 0, 1) := by decide +kernel
theorem dX0_tell_75 : decode cX0_tell 75 = .ok (.laload, 1) := by decide +kernel
theorem dX0_tell_76 : decode cX0_tell 76 = .ok (.lmul, 1) := by decide +kernel
theorem dX0_tell_77 : decode cX0_tell 77 = .ok (.iload_n 1, 1) := by decide +kernel
theorem dX0_tell_78 : decode cX0_tell 78 = .ok (.invokestatic 94, 3) := by decide +kernel
theorem dX0_tell_81 : decode cX0_tell 81 = .ok (.lreturn, 1) := by decide +kernel
theorem dX0_lookAt_0 : decode cX0_lookAt 0 = .ok (.aload_n 1, 1) := by decide +kernel
theorem dX0_lookAt_1 : decode cX0_lookAt 1 = .ok (.getfield 91, 3) := by decide +kernel
theorem dX0_lookAt_4 : decode cX0_lookAt 4 = .ok (.iload_n 2, 1) := by decide +kernel
theorem dX0_lookAt_5 : decode cX0_lookAt 5 = .ok (.laload, 1) := by decide +kernel
theorem dX0_lookAt_6 : decode cX0_lookAt 6 = .ok (.lstore 4, 2) := by decide +kernel
theorem dX0_lookAt_8 : decode cX0_lookAt 8 = .ok (.aload_n 1, 1) := by decide +kernel
theorem dX0_lookAt_9 : decode cX0_lookAt 9 = .ok (.getfield 82, 3) := by decide +kernel
theorem dX0_lookAt_12 : decode cX0_lookAt 12 = .ok (.iload_n 2, 1) := by decide +kernel
theorem dX0_lookAt_13 : decode cX0_lookAt 13 = .ok (.laload, 1) := by decide +kernel
theorem dX0_lookAt_14 : decode cX0_lookAt 14 = .ok (.iconst 2, 1) := by decide +kernel
theorem dX0_lookAt_15 : decode cX0_lookAt 15 = .ok (.aload_n 0, 1) := by decide +kernel
theorem dX0_lookAt_16 : decode cX0_lookAt 16 = .ok (.getfield 9, 3) := by decide +kernel
theorem dX0_lookAt_19 : decode cX0_lookAt 19 = .ok (.getfield 98, 3) := by decide +kernel
theorem dX0_lookAt_22 : decode cX0_lookAt 22 = .ok (.iload_n 3, 1) := by decide +kernel
theorem dX0_lookAt_23 : decode cX0_lookAt 23 = .ok (.iaload, 1) := by decide +kernel
theorem dX0_lookAt_24 : decode cX0_lookAt 24 = .ok (.imul, 1) := by decide +kernel
theorem dX0_lookAt_25 : decode cX0_lookAt 25 = .ok (.i2l, 1) := by decide +kernel
theorem dX0_lookAt_26 : decode cX0_lookAt 26 = .ok (.lload 4, 2) := by decide +kernel
theorem dX0_lookAt_28 : decode cX0_lookAt 28 = .ok (.lmul, 1) := by decide +kernel
theorem dX0_lookAt_29 : decode cX0_lookAt 29 = .ok (.lsub, 1) := by decide +kernel
theorem dX0_lookAt_30 : decode cX0_lookAt 30 = .ok (.lstore 6, 2) := by decide +kernel
theorem dX0_lookAt_32 : decode cX0_lookAt 32 = .ok (.aload_n 1, 1) := by decide +kernel
theorem dX0_lookAt_33 : decode cX0_lookAt 33 = .ok (.getfield 86, 3) := by decide +kernel
theorem dX0_lookAt_36 : decode cX0_lookAt 36 = .ok (.iload_n 2, 1) := by decide +kernel
theorem dX0_lookAt_37 : decode cX0_lookAt 37 = .ok (.laload, 1) := by decide +kernel
theorem dX0_lookAt_38 : decode cX0_lookAt 38 = .ok (.iconst 2, 1) := by decide +kernel
theorem dX0_lookAt_39 : decode cX0_lookAt 39 = .ok (.aload_n 0, 1) := by decide +kernel
theorem dX0_lookAt_40 : decode cX0_lookAt 40 = .ok (.getfield 9, 3) := by decide +kernel
theorem dX0_lookAt_43 : decode cX0_lookAt 43 = .ok (.getfield 100, 3) := by decide +kernel
theorem dX0_lookAt_46 : decode cX0_lookAt 46 = .ok (.iload_n 3, 1) := by decide +kernel
theorem dX0_lookAt_47 : decode cX0_lookAt 47 = .ok (.iaload, 1) := by decide +kernel
theorem dX0_lookAt_48 : decode cX0_lookAt 48 = .ok (.imul, 1) := by decide +kernel
theorem dX0_lookAt_49 : decode cX0_lookAt 49 = .ok (.i2l, 1) := by decide +kernel
theorem dX0_lookAt_50 : decode cX0_lookAt 50 = .ok (.lload 4, 2) := by decide +kernel
theorem dX0_lookAt_52 : decode cX0_lookAt 52 = .ok (.lmul, 1) := by decide +kernel
theorem dX0_lookAt_53 : decode cX0_lookAt 53 = .ok (.lsub, 1) := by decide +kernel
theorem dX0_lookAt_54 : decode cX0_lookAt 54 = .ok (.lstore 8, 2) := by decide +kernel
theorem dX0_lookAt_56 : decode cX0_lookAt 56 = .ok (.lload 6, 2) := by decide +kernel
theorem dX0_lookAt_58 : decode cX0_lookAt 58 = .ok (.lload 6, 2) := by decide +kernel
theorem dX0_lookAt_60 : decode cX0_lookAt 60 = .ok (.lmul, 1) := by decide +kernel
theorem dX0_lookAt_61 : decode cX0_lookAt 61 = .ok (.lload 8, 2) := by decide +kernel
theorem dX0_lookAt_63 : decode cX0_lookAt 63 = .ok (.lload 8, 2) := by decide +kernel
theorem dX0_lookAt_65 : decode cX0_lookAt 65 = .ok (.lmul, 1) := by decide +kernel
theorem dX0_lookAt_66 : decode cX0_lookAt 66 = .ok (.ladd, 1) := by decide +kernel
theorem dX0_lookAt_67 : decode cX0_lookAt 67 = .ok (.lstore 10, 2) := by decide +kernel
theorem dX0_lookAt_69 : decode cX0_lookAt 69 = .ok (.ldc2_w 102, 3) := by decide +kernel
theorem dX0_lookAt_72 : decode cX0_lookAt 72 = .ok (.lload 4, 2) := by decide +kernel
theorem dX0_lookAt_74 : decode cX0_lookAt 74 = .ok (.lmul, 1) := by decide +kernel
theorem dX0_lookAt_75 : decode cX0_lookAt 75 = .ok (.lload 4, 2) := by decide +kernel
theorem dX0_lookAt_77 : decode cX0_lookAt 77 = .ok (.lmul, 1) := by decide +kernel
theorem dX0_lookAt_78 : decode cX0_lookAt 78 = .ok (.lstore 12, 2) := by decide +kernel
theorem dX0_lookAt_80 : decode cX0_lookAt 80 = .ok (.aload_n 0, 1) := by decide +kernel
theorem dX0_lookAt_81 : decode cX0_lookAt 81 = .ok (.getfield 42, 3) := by decide +kernel
theorem dX0_lookAt_84 : decode cX0_lookAt 84 = .ok (.ifCond .eq 21, 3) := by decide +kernel
theorem dX0_lookAt_87 : decode cX0_lookAt 87 = .ok (.lload 10, 2) := by decide +kernel
theorem dX0_lookAt_89 : decode cX0_lookAt 89 = .ok (.lload 12, 2) := by decide +kernel
theorem dX0_lookAt_91 : decode cX0_lookAt 91 = .ok (.aload_n 0, 1) := by decide +kernel
theorem dX0_lookAt_92 : decode cX0_lookAt 92 = .ok (.getfield 71, 3) := by decide +kernel
theorem dX0_lookAt_95 : decode cX0_lookAt 95 = .ok (.aload_n 0, 1) := by decide +kernel
theorem dX0_lookAt_96 : decode cX0_lookAt 96 = .ok (.getfield 75, 3) := by decide +kernel
theorem dX0_lookAt_99 : decode cX0_lookAt 99 = .ok (.invokestatic 104, 3) := by decide +kernel
theorem dX0_lookAt_102 : decode cX0_lookAt 102 = .ok (.goto 4, 3) := by decide +kernel
theorem dX0_lookAt_105 : decode cX0_lookAt 105 = .ok (.iconst 1, 1) := by decide +kernel
theorem dX0_lookAt_106 : decode cX0_lookAt 106 = .ok (.istore 14, 2) := by decide +kernel
theorem dX0_lookAt_108 : decode cX0_lookAt 108 = .ok (.iload 14, 2) := by decide +kernel
theorem dX0_lookAt_110 : decode cX0_lookAt 110 = .ok (.ifCond .gt 17, 3) := by decide +kernel
theorem dX0_lookAt_113 : decode cX0_lookAt 113 = .ok (.iload 14, 2) := by decide +kernel
theorem dX0_lookAt_115 : decode cX0_lookAt 115 = .ok (.ifCond .ne 47, 3) := by decide +kernel
theorem dX0_lookAt_118 : decode cX0_lookAt 118 = .ok (.aload_n 0, 1) := by decide +kernel
theorem dX0_lookAt_119 : decode cX0_lookAt 119 = .ok (.aload_n 1, 1) := by decide +kernel
theorem dX0_lookAt_120 : decode cX0_lookAt 120 = .ok (.iload_n 2, 1) := by decide +kernel
theorem dX0_lookAt_121 : decode cX0_lookAt 121 = .ok (.invokevirtual 108, 3) := by decide +kernel
theorem dX0_lookAt_124 : decode cX0_lookAt 124 = .ok (.ifCond .eq 38, 3) := by decide +kernel
theorem dX0_lookAt_127 : decode cX0_lookAt 127 = .ok (.aload_n 0, 1) := by decide +kernel
theorem dX0_lookAt_128 : decode cX0_lookAt 128 = .ok (.iconst 1, 1) := by decide +kernel
theorem dX0_lookAt_129 : decode cX0_lookAt 129 = .ok (.putfield 42, 3) := by decide +kernel
theorem dX0_lookAt_132 : decode cX0_lookAt 132 = .ok (.aload_n 0, 1) := by decide +kernel
theorem dX0_lookAt_133 : decode cX0_lookAt 133 = .ok (.getfield 29, 3) := by decide +kernel
theorem dX0_lookAt_136 : decode cX0_lookAt 136 = .ok (.iconst 0, 1) := by decide +kernel
theorem dX0_lookAt_137 : decode cX0_lookAt 137 = .ok (.putfield 112, 3) := by decide +kernel
theorem dX0_lookAt_140 : decode cX0_lookAt 140 = .ok (.aload_n 0, 1) := by decide +kernel
theorem dX0_lookAt_141 : decode cX0_lookAt 141 = .ok (.getfield 29, 3) := by decide +kernel
theorem dX0_lookAt_144 : decode cX0_lookAt 144 = .ok (.aload_n 1, 1) := by decide +kernel
theorem dX0_lookAt_145 : decode cX0_lookAt 145 = .ok (.iload_n 2, 1) := by decide +kernel
theorem dX0_lookAt_146 : decode cX0_lookAt 146 = .ok (.iconst 0, 1) := by decide +kernel
theorem dX0_lookAt_147 : decode cX0_lookAt 147 = .ok (.invokevirtual 113, 3) := by decide +kernel
theorem dX0_lookAt_150 : decode cX0_lookAt 150 = .ok (.aload_n 0, 1) := by decide +kernel
theorem dX0_lookAt_151 : decode cX0_lookAt 151 = .ok (.lload 10, 2) := by decide +kernel
theorem dX0_lookAt_153 : decode cX0_lookAt 153 = .ok (.putfield 71, 3) := by decide +kernel
theorem dX0_lookAt_156 : decode cX0_lookAt 156 = .ok (.aload_n 0, 1) := by decide +kernel
theorem dX0_lookAt_157 : decode cX0_lookAt 157 = .ok (.lload 12, 2) := by decide +kernel
theorem dX0_lookAt_159 : decode cX0_lookAt 159 = .ok (.putfield 75, 3) := by decide +kernel
theorem dX0_lookAt_162 : decode cX0_lookAt 162 = .ok (.return_, 1) := by decide +kernel
theorem dX0_isBeforeBest_0 : decode cX0_isBeforeBest 0 = .ok (.aload_n 0, 1) := by decide +kernel
theorem dX0_isBeforeBest_1 : decode cX0_isBeforeBest 1 = .ok (.getfield 29, 3) := by decide +kernel
theorem dX0_isBeforeBest_4 : decode cX0_isBeforeBest 4 = .ok (.iconst 1, 1) := by decide +kernel
theorem dX0_isBeforeBest_5 : decode cX0_isBeforeBest 5 = .ok (.putfield 112, 3) := by decide +kernel
theorem dX0_isBeforeBest_8 : decode cX0_isBeforeBest 8 = .ok (.aload_n 0, 1) := by decide +kernel
theorem dX0_isBeforeBest_9 : decode cX0_isBeforeBest 9 = .ok (.getfield 29, 3) := by decide +kernel
theorem dX0_isBeforeBest_12 : decode cX0_isBeforeBest 12 = .ok (.aload_n 1, 1) := by decide +kernel
theorem dX0_isBeforeBest_13 : decode cX0_isBeforeBest 13 = .ok (.iload_n 2, 1) := by decide +kernel
theorem dX0_isBeforeBest_14 : decode cX0_isBeforeBest 14 = .ok (.iconst 0, 1) := by decide +kernel
theorem dX0_isBeforeBest_15 : decode cX0_isBeforeBest 15 = .ok (.invokevirtual 113, 3) := by decide +kernel
theorem dX0_isBeforeBest_18 : decode cX0_isBeforeBest 18 = .ok (.aload_n 0, 1) := by decide +kernel
theorem dX0_isBeforeBest_19 : decode cX0_isBeforeBest 19 = .ok (.getfield 29, 3) := by decide +kernel
theorem dX0_isBeforeBest_22 : decode cX0_isBeforeBest 22 = .ok (.iconst 1, 1) := by decide +kernel
theorem dX0_isBeforeBest_23 : decode cX0_isBeforeBest 23 = .ok (.iconst 0, 1) := by decide +kernel
theorem dX0_isBeforeBest_24 : decode cX0_isBeforeBest 24 = .ok (.invokevirtual 116, 3) := by decide +kernel
theorem dX0_isBeforeBest_27 : decode cX0_isBeforeBest 27 = .ok (.ireturn, 1) := by decide +kernel
theorem dX1_init_0 : decode cX1_init 0 = .ok (.aload_n 0, 1) := by decide +kernel
theorem dX1_init_1 : decode cX1_init 1 = .ok (.invokespecial 3, 3) := by decide +kernel
theorem dX1_init_4 : decode cX1_init 4 = .ok (.aload_n 0, 1) := by decide +kernel
theorem dX1_init_5 : decode cX1_init 5 = .ok (.aload_n 1, 1) := by decide +kernel
theorem dX1_init_6 : decode cX1_init 6 = .ok (.putfield 9, 3) := by decide +kernel
theorem dX1_init_9 : decode cX1_init 9 = .ok (.aload_n 0, 1) := by decide +kernel
theorem dX1_init_10 : decode cX1_init 10 = .ok (.bipush 28, 2) := by decide +kernel
theorem dX1_init_12 : decode cX1_init 12 = .ok (.newarray .long, 2) := by decide +kernel
theorem dX1_init_14 : decode cX1_init 14 = .ok (.putfield 15, 3) := by decide +kernel
theorem dX1_init_17 : decode cX1_init 17 = .ok (.aload_n 0, 1) := by decide +kernel
theorem dX1_init_18 : decode cX1_init 18 = .ok (.bipush 28, 2) := by decide +kernel
theorem dX1_init_20 : decode cX1_init 20 = .ok (.newarray .long, 2) := by decide +kernel
theorem dX1_init_22 : decode cX1_init 22 = .ok (.putfield 19, 3) := by decide +kernel
theorem dX1_init_25 : decode cX1_init 25 = .ok (.aload_n 0, 1) := by decide +kernel
theorem dX1_init_26 : decode cX1_init 26 = .ok (.bipush 28, 2) := by decide +kernel
theorem dX1_init_28 : decode cX1_init 28 = .ok (.newarray .long, 2) := by decide +kernel
theorem dX1_init_30 : decode cX1_init 30 = .ok (.putfield 22, 3) := by decide +kernel
theorem dX1_init_33 : decode cX1_init 33 = .ok (.aload_n 0, 1) := by decide +kernel
theorem dX1_init_34 : decode cX1_init 34 = .ok (.new 25, 3) := by decide +kernel
theorem dX1_init_37 : decode cX1_init 37 = .ok (.dup, 1) := by decide +kernel
theorem dX1_init_38 : decode cX1_init 38 = .ok (.bipush 28, 2) := by decide +kernel
theorem dX1_init_40 : decode cX1_init 40 = .ok (.invokespecial 27, 3) := by decide +kernel
theorem dX1_init_43 : decode cX1_init 43 = .ok (.putfield 30, 3) := by decide +kernel
theorem dX1_init_46 : decode cX1_init 46 = .ok (.aload_n 0, 1) := by decide +kernel
theorem dX1_init_47 : decode cX1_init 47 = .ok (.new 25, 3) := by decide +kernel
theorem dX1_init_50 : decode cX1_init 50 = .ok (.dup, 1) := by decide +kernel
theorem dX1_init_51 : decode cX1_init 51 = .ok (.bipush 28, 2) := by decide +kernel
theorem dX1_init_53 : decode cX1_init 53 = .ok (.invokespecial 27, 3) := by decide +kernel
theorem dX1_init_56 : decode cX1_init 56 = .ok (.putfield 34, 3) := by decide +kernel
theorem dX1_init_59 : decode cX1_init 59 = .ok (.aload_n 0, 1) := by decide +kernel
theorem dX1_init_60 : decode cX1_init 60 = .ok (.bipush 28, 2) := by decide +kernel
theorem dX1_init_62 : decode cX1_init 62 = .ok (.newarray .long, 2) := by decide +kernel
theorem dX1_init_64 : decode cX1_init 64 = .ok (.putfield 37, 3) := by decide +kernel
theorem dX1_init_67 : decode cX1_init 67 = .ok (.aload_n 0, 1) := by decide +kernel
theorem dX1_init_68 : decode cX1_init 68 = .ok (.iconst (-1), 1) := by decide +kernel
theorem dX1_init_69 : decode cX1_init 69 = .ok (.putfield 40, 3) := by decide +kernel
theorem dX1_init_72 : decode cX1_init 72 = .ok (.return_, 1) := by decide +kernel
theorem dX1_drawOnce_0 : decode cX1_drawOnce 0 = .ok (.aload_n 0, 1) := by decide +kernel
theorem dX1_drawOnce_1 : decode cX1_drawOnce 1 = .ok (.getfield 44, 3) := by decide +kernel
theorem dX1_drawOnce_4 : decode cX1_drawOnce 4 = .ok (.iload_n 1, 1) := by decide +kernel
theorem dX1_drawOnce_5 : decode cX1_drawOnce 5 = .ok (.if_icmp .ne 17, 3) := by decide +kernel
theorem dX1_drawOnce_8 : decode cX1_drawOnce 8 = .ok (.aload_n 0, 1) := by decide +kernel
theorem dX1_drawOnce_9 : decode cX1_drawOnce 9 = .ok (.getfield 40, 3) := by decide +kernel
theorem dX1_drawOnce_12 : decode cX1_drawOnce 12 = .ok (.aload_n 0, 1) := by decide +kernel
theorem dX1_drawOnce_13 : decode cX1_drawOnce 13 = .ok (.getfield 9, 3) := by decide +kernel
theorem dX1_drawOnce_16 : decode cX1_drawOnce 16 = .ok (.getfield 47, 3) := by decide +kernel
theorem dX1_drawOnce_19 : decode cX1_drawOnce 19 = .ok (.if_icmp .eq 25, 3) := by decide +kernel
theorem dX1_drawOnce_22 : decode cX1_drawOnce 22 = .ok (.aload_n 0, 1) := by decide +kernel
theorem dX1_drawOnce_23 : decode cX1_drawOnce 23 = .ok (.iload_n 1, 1) := by decide +kernel
theorem dX1_drawOnce_24 : decode cX1_drawOnce 24 = .ok (.iconst 1, 1) := by decide +kernel
theorem dX1_drawOnce_25 : decode cX1_drawOnce 25 = .ok (.invokevirtual 52, 3) := by decide +kernel
theorem dX1_drawOnce_28 : decode cX1_drawOnce 28 = .ok (.aload_n 0, 1) := by decide +kernel
theorem dX1_drawOnce_29 : decode cX1_drawOnce 29 = .ok (.iload_n 1, 1) := by decide +kernel
theorem dX1_drawOnce_30 : decode cX1_drawOnce 30 = .ok (.putfield 44, 3) := by decide +kernel
theorem dX1_drawOnce_33 : decode cX1_drawOnce 33 = .ok (.aload_n 0, 1) := by decide +kernel
theorem dX1_drawOnce_34 : decode cX1_drawOnce 34 = .ok (.aload_n 0, 1) := by decide +kernel
theorem dX1_drawOnce_35 : decode cX1_drawOnce 35 = .ok (.getfield 9, 3) := by decide +kernel
theorem dX1_drawOnce_38 : decode cX1_drawOnce 38 = .ok (.getfield 47, 3) := by decide +kernel
theorem dX1_drawOnce_41 : decode cX1_drawOnce 41 = .ok (.putfield 40, 3) := by decide +kernel
theorem dX1_drawOnce_44 : decode cX1_drawOnce 44 = .ok (.return_, 1) := by decide +kernel
theorem dX1_draw_0 : decode cX1_draw 0 = .ok (.aload_n 0, 1) := by decide +kernel
theorem dX1_draw_1 : decode cX1_draw 1 = .ok (.getfield 30, 3) := by decide +kernel
theorem dX1_draw_4 : decode cX1_draw 4 = .ok (.iconst 0, 1) := by decide +kernel
theorem dX1_draw_5 : decode cX1_draw 5 = .ok (.putfield 56, 3) := by decide +kernel
theorem dX1_draw_8 : decode cX1_draw 8 = .ok (.aload_n 0, 1) := by decide +kernel
theorem dX1_draw_9 : decode cX1_draw 9 = .ok (.iconst 0, 1) := by decide +kernel
theorem dX1_draw_10 : decode cX1_draw 10 = .ok (.putfield 59, 3) := by decide +kernel
theorem dX1_draw_13 : decode cX1_draw 13 = .ok (.aload_n 0, 1) := by decide +kernel
theorem dX1_draw_14 : decode cX1_draw 14 = .ok (.getfield 9, 3) := by decide +kernel
theorem dX1_draw_17 : decode cX1_draw 17 = .ok (.iload_n 1, 1) := by decide +kernel
theorem dX1_draw_18 : decode cX1_draw 18 = .ok (.invokevirtual 62, 3) := by decide +kernel
theorem dX1_draw_21 : decode cX1_draw 21 = .ok (.ifCond .ne 4, 3) := by decide +kernel
theorem dX1_draw_24 : decode cX1_draw 24 = .ok (.return_, 1) := by decide +kernel
theorem dX1_draw_25 : decode cX1_draw 25 = .ok (.aload_n 0, 1) := by decide +kernel
theorem dX1_draw_26 : decode cX1_draw 26 = .ok (.invokevirtual 66, 3) := by decide +kernel
theorem dX1_draw_29 : decode cX1_draw 29 = .ok (.iconst 0, 1) := by decide +kernel
theorem dX1_draw_30 : decode cX1_draw 30 = .ok (.istore_n 3, 1) := by decide +kernel
theorem dX1_draw_31 : decode cX1_draw 31 = .ok (.iload_n 3, 1) := by decide +kernel
theorem dX1_draw_32 : decode cX1_draw 32 = .ok (.aload_n 0, 1) := by decide +kernel
theorem dX1_draw_33 : decode cX1_draw 33 = .ok (.getfield 9, 3) := by decide +kernel
theorem dX1_draw_36 : decode cX1_draw 36 = .ok (.getfield 69, 3) := by decide +kernel
theorem dX1_draw_39 : decode cX1_draw 39 = .ok (.if_icmp .ge 42, 3) := by decide +kernel
theorem dX1_draw_42 : decode cX1_draw 42 = .ok (.aload_n 0, 1) := by decide +kernel
theorem dX1_draw_43 : decode cX1_draw 43 = .ok (.getfield 9, 3) := by decide +kernel
theorem dX1_draw_46 : decode cX1_draw 46 = .ok (.getfield 70, 3) := by decide +kernel
theorem dX1_draw_49 : decode cX1_draw 49 = .ok (.iload_n 3, 1) := by decide +kernel
theorem dX1_draw_50 : decode cX1_draw 50 = .ok (.iaload, 1) := by decide +kernel
theorem dX1_draw_51 : decode cX1_draw 51 = .ok (.istore 4, 2) := by decide +kernel
theorem dX1_draw_53 : decode cX1_draw 53 = .ok (.iload 4, 2) := by decide +kernel
theorem dX1_draw_55 : decode cX1_draw 55 = .ok (.iload_n 1, 1) := by decide +kernel
theorem dX1_draw_56 : decode cX1_draw 56 = .ok (.if_icmp .eq 19, 3) := by decide +kernel
theorem dX1_draw_59 : decode cX1_draw 59 = .ok (.aload_n 0, 1) := by decide +kernel
theorem dX1_draw_60 : decode cX1_draw 60 = .ok (.iload 4, 2) := by decide +kernel
theorem dX1_draw_62 : decode cX1_draw 62 = .ok (.iload_n 1, 1) := by decide +kernel
theorem dX1_draw_63 : decode cX1_draw 63 = .ok (.iload_n 2, 1) := by decide +kernel
theorem dX1_draw_64 : decode cX1_draw 64 = .ok (.invokevirtual 74, 3) := by decide +kernel
theorem dX1_draw_67 : decode cX1_draw 67 = .ok (.aload_n 0, 1) := by decide +kernel
theorem dX1_draw_68 : decode cX1_draw 68 = .ok (.iconst 4, 1) := by decide +kernel
theorem dX1_draw_69 : decode cX1_draw 69 = .ok (.iload 4, 2) := by decide +kernel
theorem dX1_draw_71 : decode cX1_draw 71 = .ok (.iadd, 1) := by decide +kernel
theorem dX1_draw_72 : decode cX1_draw 72 = .ok (.invokevirtual 78, 3) := by decide +kernel
theorem dX1_draw_75 : decode cX1_draw 75 = .ok (.iinc 3 1, 3) := by decide +kernel
theorem dX1_draw_78 : decode cX1_draw 78 = .ok (.goto (-47), 3) := by decide +kernel
theorem dX1_draw_81 : decode cX1_draw 81 = .ok (.iconst 1, 1) := by decide +kernel
theorem dX1_draw_82 : decode cX1_draw 82 = .ok (.istore_n 3, 1) := by decide +kernel
theorem dX1_draw_83 : decode cX1_draw 83 = .ok (.iload_n 3, 1) := by decide +kernel
theorem dX1_draw_84 : decode cX1_draw 84 = .ok (.aload_n 0, 1) := by decide +kernel
theorem dX1_draw_85 : decode cX1_draw 85 = .ok (.getfield 30, 3) := by decide +kernel
theorem dX1_draw_88 : decode cX1_draw 88 = .ok (.getfield 56, 3) := by decide +kernel
theorem dX1_draw_91 : decode cX1_draw 91 = .ok (.if_icmp .ge 29, 3) := by decide +kernel
theorem dX1_draw_94 : decode cX1_draw 94 = .ok (.aload_n 0, 1) := by decide +kernel
theorem dX1_draw_95 : decode cX1_draw 95 = .ok (.getfield 30, 3) := by decide +kernel
theorem dX1_draw_98 : decode cX1_draw 98 = .ok (.iload_n 3, 1) := by decide +kernel
theorem dX1_draw_99 : decode cX1_draw 99 = .ok (.aload_n 0, 1) := by decide +kernel
theorem dX1_draw_100 : decode cX1_draw 100 = .ok (.getfield 59, 3) := by decide +kernel
theorem dX1_draw_103 : decode cX1_draw 103 = .ok (.invokevirtual 81, 3) := by decide +kernel
theorem dX1_draw_106 : decode cX1_draw 106 = .ok (.ifCond .eq 8, 3) := by decide +kernel
theorem dX1_draw_109 : decode cX1_draw 109 = .ok (.aload_n 0, 1) := by decide +kernel
theorem dX1_draw_110 : decode cX1_draw 110 = .ok (.iload_n 3, 1) := by decide +kernel
theorem dX1_draw_111 : decode cX1_draw 111 = .ok (.putfield 59, 3) := by decide +kernel
theorem dX1_draw_114 : decode cX1_draw 114 = .ok (.iinc 3 1, 3) := by decide +kernel
theorem dX1_draw_117 : decode cX1_draw 117 = .ok (.goto (-34), 3) := by decide +kernel
theorem dX1_draw_120 : decode cX1_draw 120 = .ok (.return_, 1) := by decide +kernel
theorem dX1_size_0 : decode cX1_size 0 = .ok (.aload_n 0, 1) := by decide +kernel
theorem dX1_size_1 : decode cX1_size 1 = .ok (.getfield 30, 3) := by decide +kernel
theorem dX1_size_4 : decode cX1_size 4 = .ok (.getfield 56, 3) := by decide +kernel
theorem dX1_size_7 : decode cX1_size 7 = .ok (.ireturn, 1) := by decide +kernel
theorem dX1_outline_0 : decode cX1_outline 0 = .ok (.aload_n 0, 1) := by decide +kernel
theorem dX1_outline_1 : decode cX1_outline 1 = .ok (.getfield 30, 3) := by decide +kernel
theorem dX1_outline_4 : decode cX1_outline 4 = .ok (.areturn, 1) := by decide +kernel
theorem dX1_cornerAt_0 : decode cX1_cornerAt 0 = .ok (.iload_n 1, 1) := by decide +kernel
theorem dX1_cornerAt_1 : decode cX1_cornerAt 1 = .ok (.ifCond .lt 14, 3) := by decide +kernel
theorem dX1_cornerAt_4 : decode cX1_cornerAt 4 = .ok (.iload_n 1, 1) := by decide +kernel
theorem dX1_cornerAt_5 : decode cX1_cornerAt 5 = .ok (.aload_n 0, 1) := by decide +kernel
theorem dX1_cornerAt_6 : decode cX1_cornerAt 6 = .ok (.getfield 30, 3) := by decide +kernel
theorem dX1_cornerAt_9 : decode cX1_cornerAt 9 = .ok (.getfield 56, 3) := by decide +kernel
theorem dX1_cornerAt_12 : decode cX1_cornerAt 12 = .ok (.if_icmp .lt 5, 3) := by decide +kernel
theorem dX1_cornerAt_15 : decode cX1_cornerAt 15 = .ok (.iconst (-1), 1) := by decide +kernel
theorem dX1_cornerAt_16 : decode cX1_cornerAt 16 = .ok (.ireturn, 1) := by decide +kernel
theorem dX1_cornerAt_17 : decode cX1_cornerAt 17 = .ok (.aload_n 0, 1) := by decide +kernel
theorem dX1_cornerAt_18 : decode cX1_cornerAt 18 = .ok (.getfield 59, 3) := by decide +kernel
theorem dX1_cornerAt_21 : decode cX1_cornerAt 21 = .ok (.iload_n 1, 1) := by decide +kernel
theorem dX1_cornerAt_22 : decode cX1_cornerAt 22 = .ok (.iadd, 1) := by decide +kernel
theorem dX1_cornerAt_23 : decode cX1_cornerAt 23 = .ok (.istore_n 2, 1) := by decide +kernel
theorem dX1_cornerAt_24 : decode cX1_cornerAt 24 = .ok (.iload_n 2, 1) := by decide +kernel
theorem dX1_cornerAt_25 : decode cX1_cornerAt 25 = .ok (.aload_n 0, 1) := by decide +kernel
theorem dX1_cornerAt_26 : decode cX1_cornerAt 26 = .ok (.getfield 30, 3) := by decide +kernel
theorem dX1_cornerAt_29 : decode cX1_cornerAt 29 = .ok (.getfield 56, 3) := by decide +kernel
theorem dX1_cornerAt_32 : decode cX1_cornerAt 32 = .ok (.if_icmp .ge 7, 3) := by decide +kernel
theorem dX1_cornerAt_35 : decode cX1_cornerAt 35 = .ok (.iload_n 2, 1) := by decide +kernel
theorem dX1_cornerAt_36 : decode cX1_cornerAt 36 = .ok (.goto 12, 3) := by decide +kernel
theorem dX1_cornerAt_39 : decode cX1_cornerAt 39 = .ok (.iload_n 2, 1) := by decide +kernel
theorem dX1_cornerAt_40 : decode cX1_cornerAt 40 = .ok (.aload_n 0, 1) := by decide +kernel
theorem dX1_cornerAt_41 : decode cX1_cornerAt 41 = .ok (.getfield 30, 3) := by decide +kernel
theorem dX1_cornerAt_44 : decode cX1_cornerAt 44 = .ok (.getfield 56, 3) := by decide +kernel
theorem dX1_cornerAt_47 : decode cX1_cornerAt 47 = .ok (.isub, 1) := by decide +kernel
theorem dX1_cornerAt_48 : decode cX1_cornerAt 48 = .ok (.ireturn, 1) := by decide +kernel
theorem dX1_sharedWith_0 : decode cX1_sharedWith 0 = .ok (.aload_n 0, 1) := by decide +kernel
theorem dX1_sharedWith_1 : decode cX1_sharedWith 1 = .ok (.getfield 9, 3) := by decide +kernel
theorem dX1_sharedWith_4 : decode cX1_sharedWith 4 = .ok (.iload_n 1, 1) := by decide +kernel
theorem dX1_sharedWith_5 : decode cX1_sharedWith 5 = .ok (.invokevirtual 62, 3) := by decide +kernel
theorem dX1_sharedWith_8 : decode cX1_sharedWith 8 = .ok (.ifCond .ne 5, 3) := by decide +kernel
theorem dX1_sharedWith_11 : decode cX1_sharedWith 11 = .ok (.iconst 0, 1) := by decide +kernel
theorem dX1_sharedWith_12 : decode cX1_sharedWith 12 = .ok (.ireturn, 1) := by decide +kernel
theorem dX1_sharedWith_13 : decode cX1_sharedWith 13 = .ok (.iconst 0, 1) := by decide +kernel
theorem dX1_sharedWith_14 : decode cX1_sharedWith 14 = .ok (.istore_n 2, 1) := by decide +kernel
theorem dX1_sharedWith_15 : decode cX1_sharedWith 15 = .ok (.iconst 0, 1) := by decide +kernel
theorem dX1_sharedWith_16 : decode cX1_sharedWith 16 = .ok (.istore_n 3, 1) := by decide +kernel
theorem dX1_sharedWith_17 : decode cX1_sharedWith 17 = .ok (.iload_n 3, 1) := by decide +kernel
theorem dX1_sharedWith_18 : decode cX1_sharedWith 18 = .ok (.aload_n 0, 1) := by decide +kernel
theorem dX1_sharedWith_19 : decode cX1_sharedWith 19 = .ok (.getfield 30, 3) := by decide +kernel
theorem dX1_sharedWith_22 : decode cX1_sharedWith 22 = .ok (.getfield 56, 3) := by decide +kernel
theorem dX1_sharedWith_25 : decode cX1_sharedWith 25 = .ok (.if_icmp .ge 25, 3) := by decide +kernel
theorem dX1_sharedWith_28 : decode cX1_sharedWith 28 = .ok (.aload_n 0, 1) := by decide +kernel
theorem dX1_sharedWith_29 : decode cX1_sharedWith 29 = .ok (.iconst 4, 1) := by decide +kernel
theorem dX1_sharedWith_30 : decode cX1_sharedWith 30 = .ok (.iload_n 1, 1) := by decide +kernel
theorem dX1_sharedWith_31 : decode cX1_sharedWith 31 = .ok (.iadd, 1) := by decide +kernel
theorem dX1_sharedWith_32 : decode cX1_sharedWith 32 = .ok (.iload_n 3, 1) := by decide +kernel
theorem dX1_sharedWith_33 : decode cX1_sharedWith 33 = .ok (.invokevirtual 85, 3) := by decide +kernel
theorem dX1_sharedWith_36 : decode cX1_sharedWith 36 = .ok (.lconst 0, 1) := by decide +kernel
theorem dX1_sharedWith_37 : decode cX1_sharedWith 37 = .ok (.lcmp, 1) := by decide +kernel
theorem dX1_sharedWith_38 : decode cX1_sharedWith 38 = .ok (.ifCond .ne 6, 3) := by decide +kernel
theorem dX1_sharedWith_41 : decode cX1_sharedWith 41 = .ok (.iinc 2 1, 3) := by decide +kernel
theorem dX1_sharedWith_44 : decode cX1_sharedWith 44 = .ok (.iinc 3 1, 3) := by decide +kernel
theorem dX1_sharedWith_47 : decode cX1_sharedWith 47 = .ok (.goto (-30), 3) := by decide +kernel
theorem dX1_sharedWith_50 : decode cX1_sharedWith 50 = .ok (.iload_n 2, 1) := by decide +kernel
theorem dX1_sharedWith_51 : decode cX1_sharedWith 51 = .ok (.ireturn, 1) := by decide +kernel
theorem dX1_endAt_0 : decode cX1_endAt 0 = .ok (.iload_n 2, 1) := by decide +kernel
theorem dX1_endAt_1 : decode cX1_endAt 1 = .ok (.ifCond .lt 12, 3) := by decide +kernel
theorem dX1_endAt_4 : decode cX1_endAt 4 = .ok (.iload_n 2, 1) := by decide +kernel
theorem dX1_endAt_5 : decode cX1_endAt 5 = .ok (.aload_n 0, 1) := by decide +kernel
theorem dX1_endAt_6 : decode cX1_endAt 6 = .ok (.iload_n 1, 1) := by decide +kernel
theorem dX1_endAt_7 : decode cX1_endAt 7 = .ok (.invokevirtual 89, 3) := by decide +kernel
theorem dX1_endAt_10 : decode cX1_endAt 10 = .ok (.if_icmp .lt 5, 3) := by decide +kernel
theorem dX1_endAt_13 : decode cX1_endAt 13 = .ok (.iconst (-1), 1) := by decide +kernel
theorem dX1_endAt_14 : decode cX1_endAt 14 = .ok (.ireturn, 1) := by decide +kernel
theorem dX1_endAt_15 : decode cX1_endAt 15 = .ok (.iconst (-1), 1) := by decide +kernel
theorem dX1_endAt_16 : decode cX1_endAt 16 = .ok (.istore_n 3, 1) := by decide +kernel
theorem dX1_endAt_17 : decode cX1_endAt 17 = .ok (.iconst (-1), 1) := by decide +kernel
theorem dX1_endAt_18 : decode cX1_endAt 18 = .ok (.istore 4, 2) := by decide +kernel
theorem dX1_endAt_20 : decode cX1_endAt 20 = .ok (.iconst 0, 1) := by decide +kernel
theorem dX1_endAt_21 : decode cX1_endAt 21 = .ok (.istore 5, 2) := by decide +kernel
theorem dX1_endAt_23 : decode cX1_endAt 23 = .ok (.iload 5, 2) := by decide +kernel
theorem dX1_endAt_25 : decode cX1_endAt 25 = .ok (.aload_n 0, 1) := by decide +kernel
theorem dX1_endAt_26 : decode cX1_endAt 26 = .ok (.getfield 30, 3) := by decide +kernel
theorem dX1_endAt_29 : decode cX1_endAt 29 = .ok (.getfield 56, 3) := by decide +kernel
theorem dX1_endAt_32 : decode cX1_endAt 32 = .ok (.if_icmp .ge 54, 3) := by decide +kernel
theorem dX1_endAt_35 : decode cX1_endAt 35 = .ok (.aload_n 0, 1) := by decide +kernel
theorem dX1_endAt_36 : decode cX1_endAt 36 = .ok (.iconst 4, 1) := by decide +kernel
theorem dX1_endAt_37 : decode cX1_endAt 37 = .ok (.iload_n 1, 1) := by decide +kernel
theorem dX1_endAt_38 : decode cX1_endAt 38 = .ok (.iadd, 1) := by decide +kernel
theorem dX1_endAt_39 : decode cX1_endAt 39 = .ok (.iload 5, 2) := by decide +kernel
theorem dX1_endAt_41 : decode cX1_endAt 41 = .ok (.invokevirtual 85, 3) := by decide +kernel
theorem dX1_endAt_44 : decode cX1_endAt 44 = .ok (.lconst 0, 1) := by decide +kernel
theorem dX1_endAt_45 : decode cX1_endAt 45 = .ok (.lcmp, 1) := by decide +kernel
theorem dX1_endAt_46 : decode cX1_endAt 46 = .ok (.ifCond .ne 34, 3) := by decide +kernel
theorem dX1_endAt_49 : decode cX1_endAt 49 = .ok (.iload_n 3, 1) := by decide +kernel
theorem dX1_endAt_50 : decode cX1_endAt 50 = .ok (.iconst (-1), 1) := by decide +kernel
theorem dX1_endAt_51 : decode cX1_endAt 51 = .ok (.if_icmp .eq 16, 3) := by decide +kernel
theorem dX1_endAt_54 : decode cX1_endAt 54 = .ok (.aload_n 0, 1) := by decide +kernel
theorem dX1_endAt_55 : decode cX1_endAt 55 = .ok (.getfield 30, 3) := by decide +kernel
theorem dX1_endAt_58 : decode cX1_endAt 58 = .ok (.iload 5, 2) := by decide +kernel
theorem dX1_endAt_60 : decode cX1_endAt 60 = .ok (.iload_n 3, 1) := by decide +kernel
theorem dX1_endAt_61 : decode cX1_endAt 61 = .ok (.invokevirtual 81, 3) := by decide +kernel
theorem dX1_endAt_64 : decode cX1_endAt 64 = .ok (.ifCond .eq 12, 3) := by decide +kernel
theorem dX1_endAt_67 : decode cX1_endAt 67 = .ok (.iload_n 3, 1) := by decide +kernel
theorem dX1_endAt_68 : decode cX1_endAt 68 = .ok (.istore 4, 2) := by decide +kernel
theorem dX1_endAt_70 : decode cX1_endAt 70 = .ok (.iload 5, 2) := by decide +kernel
theorem dX1_endAt_72 : decode cX1_endAt 72 = .ok (.istore_n 3, 1) := by decide +kernel
theorem dX1_endAt_73 : decode cX1_endAt 73 = .ok (.goto 7, 3) := by decide +kernel
theorem dX1_endAt_76 : decode cX1_endAt 76 = .ok (.iload 5, 2) := by decide +kernel
theorem dX1_endAt_78 : decode cX1_endAt 78 = .ok (.istore 4, 2) := by decide +kernel
theorem dX1_endAt_80 : decode cX1_endAt 80 = .ok (.iinc 5 1, 3) := by decide +kernel
theorem dX1_endAt_83 : decode cX1_endAt 83 = .ok (.goto (-60), 3) := by decide +kernel
theorem dX1_endAt_86 : decode cX1_endAt 86 = .ok (.iload_n 2, 1) := by decide +kernel
theorem dX1_endAt_87 : decode cX1_endAt 87 = .ok (.ifCond .ne 7, 3) := by decide +kernel
theorem dX1_endAt_90 : decode cX1_endAt 90 = .ok (.iload_n 3, 1) := by decide +kernel
theorem dX1_endAt_91 : decode cX1_endAt 91 = .ok (.goto 5, 3) := by decide +kernel
theorem dX1_endAt_94 : decode cX1_endAt 94 = .ok (.iload 4, 2) := by decide +kernel
theorem dX1_endAt_96 : decode cX1_endAt 96 = .ok (.ireturn, 1) := by decide +kernel
theorem dX1_tell_0 : decode cX1_tell 0 = .ok (.iload_n 1, 1) := by decide +kernel
theorem dX1_tell_1 : decode cX1_tell 1 = .ok (.ifCond .lt 14, 3) := by decide +kernel
theorem dX1_tell_4 : decode cX1_tell 4 = .ok (.iload_n 1, 1) := by decide +kernel
theorem dX1_tell_5 : decode cX1_tell 5 = .ok (.aload_n 0, 1) := by decide +kernel
theorem dX1_tell_6 : decode cX1_tell 6 = .ok (.getfield 30, 3) := by decide +kernel
theorem dX1_tell_9 : decode cX1_tell 9 = .ok (.getfield 56, 3) := by decide +kernel
theorem dX1_tell_12 : decode cX1_tell 12 = .ok (.if_icmp .lt 7, 3) := by decide +kernel
theorem dX1_tell_15 : decode cX1_tell 15 = .ok (.ldc2_w 93, 3) := by decide +kernel
theorem dX1_tell_18 : decode cX1_tell 18 = .ok (.lreturn, 1) := by decide +kernel
theorem dX1_tell_19 : decode cX1_tell 19 = .ok (.aload_n 0, 1) := by decide +kernel
theorem dX1_tell_20 : decode cX1_tell 20 = .ok (.getfield 30, 3) := by decide +kernel
theorem dX1_tell_23 : decode cX1_tell 23 = .ok (.getfield 95, 3) := by decide +kernel
theorem dX1_tell_26 : decode cX1_tell 26 = .ok (.iload_n 1, 1) := by decide +kernel
theorem dX1_tell_27 : decode cX1_tell 27 = .ok (.laload, 1) := by decide +kernel
theorem dX1_tell_28 : decode cX1_tell 28 = .ok (.aload_n 0, 1) := by decide +kernel
theorem dX1_tell_29 : decode cX1_tell 29 = .ok (.getfield 30, 3) := by decide +kernel
theorem dX1_tell_32 : decode cX1_tell 32 = .ok (.getfield 98, 3) := by decide +kernel
theorem dX1_tell_35 : decode cX1_tell 35 = .ok (.iload_n 1, 1) := by decide +kernel
theorem dX1_tell_36 : decode cX1_tell 36 = .ok (.laload, 1) := by decide +kernel
theorem dX1_tell_37 : decode cX1_tell 37 = .ok (.ldc2_w 101, 3) := by decide +kernel
theorem dX1_tell_40 : decode cX1_tell 40 = .ok (.aload_n 0, 1) := by decide +kernel
theorem dX1_tell_41 : decode cX1_tell 41 = .ok (.getfield 30, 3) := by decide +kernel
theorem dX1_tell_44 : decode cX1_tell 44 = .ok (.getfield 103, 3) := by decide +kernel
theorem dX1_tell_47 : decode cX1_tell 47 = .ok (.iload_n 1, 1) := by decide +kernel
theorem dX1_tell_48 : decode cX1_tell 48 = .ok (.laload, 1) := by decide +kernel
theorem dX1_tell_49 : decode cX1_tell 49 = .ok (.lmul, 1) := by decide +kernel
theorem dX1_tell_50 : decode cX1_tell 50 = .ok (.iload_n 2, 1) := by decide +kernel
theorem dX1_tell_51 : decode cX1_tell 51 = .ok (.invokestatic 106, 3) := by decide +kernel
theorem dX1_tell_54 : decode cX1_tell 54 = .ok (.lreturn, 1) := by decide +kernel
theorem dX1_beginWithMap_0 : decode cX1_beginWithMap 0 = .ok (.iconst 2, 1) := by decide +kernel
theorem dX1_beginWithMap_1 : decode cX1_beginWithMap 1 = .ok (.aload_n 0, 1) := by decide +kernel
theorem dX1_beginWithMap_2 : decode cX1_beginWithMap 2 = .ok (.getfield 9, 3) := by decide +kernel
theorem dX1_beginWithMap_5 : decode cX1_beginWithMap 5 = .ok (.getfield 110, 3) := by decide +kernel
theorem dX1_beginWithMap_8 : decode cX1_beginWithMap 8 = .ok (.imul, 1) := by decide +kernel
theorem dX1_beginWithMap_9 : decode cX1_beginWithMap 9 = .ok (.istore_n 1, 1) := by decide +kernel
theorem dX1_beginWithMap_10 : decode cX1_beginWithMap 10 = .ok (.iconst 2, 1) := by decide +kernel
theorem dX1_beginWithMap_11 : decode cX1_beginWithMap 11 = .ok (.aload_n 0, 1) := by decide +kernel
theorem dX1_beginWithMap_12 : decode cX1_beginWithMap 12 = .ok (.getfield 9, 3) := by decide +kernel
theorem dX1_beginWithMap_15 : decode cX1_beginWithMap 15 = .ok (.getfield 113, 3) := by decide +kernel
theorem dX1_beginWithMap_18 : decode cX1_beginWithMap 18 = .ok (.imul, 1) := by decide +kernel
theorem dX1_beginWithMap_19 : decode cX1_beginWithMap 19 = .ok (.istore_n 2, 1) := by decide +kernel
theorem dX1_beginWithMap_20 : decode cX1_beginWithMap 20 = .ok (.aload_n 0, 1) := by decide +kernel
theorem dX1_beginWithMap_21 : decode cX1_beginWithMap 21 = .ok (.iconst 0, 1) := by decide +kernel
theorem dX1_beginWithMap_22 : decode cX1_beginWithMap 22 = .ok (.iconst 0, 1) := by decide +kernel
theorem dX1_beginWithMap_23 : decode cX1_beginWithMap 23 = .ok (.iconst (-1), 1) := by decide +kernel
theorem dX1_beginWithMap_24 : decode cX1_beginWithMap 24 = .ok (.iconst 0, 1) := by decide +kernel
theorem dX1_beginWithMap_25 : decode cX1_beginWithMap 25 = .ok (.invokevirtual 116, 3) := by decide +kernel
theorem dX1_beginWithMap_28 : decode cX1_beginWithMap 28 = .ok (.aload_n 0, 1) := by decide +kernel
theorem dX1_beginWithMap_29 : decode cX1_beginWithMap 29 = .ok (.iconst 1, 1) := by decide +kernel
theorem dX1_beginWithMap_30 : decode cX1_beginWithMap 30 = .ok (.iconst 1, 1) := by decide +kernel
theorem dX1_beginWithMap_31 : decode cX1_beginWithMap 31 = .ok (.iconst 0, 1) := by decide +kernel
theorem dX1_beginWithMap_32 : decode cX1_beginWithMap 32 = .ok (.iload_n 1, 1) := by decide +kernel
theorem dX1_beginWithMap_33 : decode cX1_beginWithMap 33 = .ok (.invokevirtual 116, 3) := by decide +kernel
theorem dX1_beginWithMap_36 : decode cX1_beginWithMap 36 = .ok (.aload_n 0, 1) := by decide +kernel
theorem dX1_beginWithMap_37 : decode cX1_beginWithMap 37 = .ok (.iconst 2, 1) := by decide +kernel
theorem dX1_beginWithMap_38 : decode cX1_beginWithMap 38 = .ok (.iconst 0, 1) := by decide +kernel
theorem dX1_beginWithMap_39 : decode cX1_beginWithMap 39 = .ok (.iconst 1, 1) := by decide +kernel
theorem dX1_beginWithMap_40 : decode cX1_beginWithMap 40 = .ok (.iload_n 2, 1) := by decide +kernel
theorem dX1_beginWithMap_41 : decode cX1_beginWithMap 41 = .ok (.invokevirtual 116, 3) := by decide +kernel
theorem dX1_beginWithMap_44 : decode cX1_beginWithMap 44 = .ok (.aload_n 0, 1) := by decide +kernel
theorem dX1_beginWithMap_45 : decode cX1_beginWithMap 45 = .ok (.iconst 3, 1) := by decide +kernel
theorem dX1_beginWithMap_46 : decode cX1_beginWithMap 46 = .ok (.iconst (-1), 1) := by decide +kernel
theorem dX1_beginWithMap_47 : decode cX1_beginWithMap 47 = .ok (.iconst 0, 1) := by decide +kernel
theorem dX1_beginWithMap_48 : decode cX1_beginWithMap 48 = .ok (.iconst 0, 1) := by decide +kernel
theorem dX1_beginWithMap_49 : decode cX1_beginWithMap 49 = .ok (.invokevirtual 116, 3) := by decide +kernel
theorem dX1_beginWithMap_52 : decode cX1_beginWithMap 52 = .ok (.aload_n 0, 1) := by decide +kernel
theorem dX1_beginWithMap_53 : decode cX1_beginWithMap 53 = .ok (.getfield 30, 3) := by decide +kernel
theorem dX1_beginWithMap_56 : decode cX1_beginWithMap 56 = .ok (.lconst 0, 1) := by decide +kernel
theorem dX1_beginWithMap_57 : decode cX1_beginWithMap 57 = .ok (.lconst 0, 1) := by decide +kernel
theorem dX1_beginWithMap_58 : decode cX1_beginWithMap 58 = .ok (.lconst 1, 1) := by decide +kernel
theorem dX1_beginWithMap_59 : decode cX1_beginWithMap 59 = .ok (.iconst 0, 1) := by decide +kernel
theorem dX1_beginWithMap_60 : decode cX1_beginWithMap 60 = .ok (.invokevirtual 120, 3) := by decide +kernel
theorem dX1_beginWithMap_63 : decode cX1_beginWithMap 63 = .ok (.aload_n 0, 1) := by decide +kernel
theorem dX1_beginWithMap_64 : decode cX1_beginWithMap 64 = .ok (.getfield 30, 3) := by decide +kernel
theorem dX1_beginWithMap_67 : decode cX1_beginWithMap 67 = .ok (.iload_n 1, 1) := by decide +kernel
theorem dX1_beginWithMap_68 : decode cX1_beginWithMap 68 = .ok (.i2l, 1) := by decide +kernel
theorem dX1_beginWithMap_69 : decode cX1_beginWithMap 69 = .ok (.lconst 0, 1) := by decide +kernel
theorem dX1_beginWithMap_70 : decode cX1_beginWithMap 70 = .ok (.lconst 1, 1) := by decide +kernel
theorem dX1_beginWithMap_71 : decode cX1_beginWithMap 71 = .ok (.iconst 1, 1) := by decide +kernel
theorem dX1_beginWithMap_72 : decode cX1_beginWithMap 72 = .ok (.invokevirtual 120, 3) := by decide +kernel
theorem dX1_beginWithMap_75 : decode cX1_beginWithMap 75 = .ok (.aload_n 0, 1) := by decide +kernel
theorem dX1_beginWithMap_76 : decode cX1_beginWithMap 76 = .ok (.getfield 30, 3) := by decide +kernel
theorem dX1_beginWithMap_79 : decode cX1_beginWithMap 79 = .ok (.iload_n 1, 1) := by decide +kernel
theorem dX1_beginWithMap_80 : decode cX1_beginWithMap 80 = .ok (.i2l, 1) := by decide +kernel
theorem dX1_beginWithMap_81 : decode cX1_beginWithMap 81 = .ok (.iload_n 2, 1) := by decide +kernel
theorem dX1_beginWithMap_82 : decode cX1_beginWithMap 82 = .ok (.i2l, 1) := by decide +kernel
theorem dX1_beginWithMap_83 : decode cX1_beginWithMap 83 = .ok (.lconst 1, 1) := by decide +kernel
theorem dX1_beginWithMap_84 : decode cX1_beginWithMap 84 = .ok (.iconst 2, 1) := by decide +kernel
theorem dX1_beginWithMap_85 : decode cX1_beginWithMap 85 = .ok (.invokevirtual 120, 3) := by decide +kernel
theorem dX1_beginWithMap_88 : decode cX1_beginWithMap 88 = .ok (.aload_n 0, 1) := by decide +kernel
theorem dX1_beginWithMap_89 : decode cX1_beginWithMap 89 = .ok (.getfield 30, 3) := by decide +kernel
theorem dX1_beginWithMap_92 : decode cX1_beginWithMap 92 = .ok (.lconst 0, 1) := by decide +kernel
theorem dX1_beginWithMap_93 : decode cX1_beginWithMap 93 = .ok (.iload_n 2, 1) := by decide +kernel
theorem dX1_beginWithMap_94 : decode cX1_beginWithMap 94 = .ok (.i2l, 1) := by decide +kernel
theorem dX1_beginWithMap_95 : decode cX1_beginWithMap 95 = .ok (.lconst 1, 1) := by decide +kernel
theorem dX1_beginWithMap_96 : decode cX1_beginWithMap 96 = .ok (.iconst 3, 1) := by decide +kernel
theorem dX1_beginWithMap_97 : decode cX1_beginWithMap 97 = .ok (.invokevirtual 120, 3) := by decide +kernel
theorem dX1_beginWithMap_100 : decode cX1_beginWithMap 100 = .ok (.return_, 1) := by decide +kernel
theorem dX1_setLine_0 : decode cX1_setLine 0 = .ok (.aload_n 0, 1) := by decide +kernel
theorem dX1_setLine_1 : decode cX1_setLine 1 = .ok (.getfield 15, 3) := by decide +kernel
theorem dX1_setLine_4 : decode cX1_setLine 4 = .ok (.iload_n 1, 1) := by decide +kernel
theorem dX1_setLine_5 : decode cX1_setLine 5 = .ok (.iload_n 2, 1) := by decide +kernel
theorem dX1_setLine_6 : decode cX1_setLine 6 = .ok (.i2l, 1) := by decide +kernel
theorem dX1_setLine_7 : decode cX1_setLine 7 = .ok (.lastore, 1) := by decide +kernel
theorem dX1_setLine_8 : decode cX1_setLine 8 = .ok (.aload_n 0, 1) := by decide +kernel
theorem dX1_setLine_9 : decode cX1_setLine 9 = .ok (.getfield 19, 3) := by decide +kernel
theorem dX1_setLine_12 : decode cX1_setLine 12 = .ok (.iload_n 1, 1) := by decide +kernel
theorem dX1_setLine_13 : decode cX1_setLine 13 = .ok (.iload_n 3, 1) := by decide +kernel
theorem dX1_setLine_14 : decode cX1_setLine 14 = .ok (.i2l, 1) := by decide +kernel
theorem dX1_setLine_15 : decode cX1_setLine 15 = .ok (.lastore, 1) := by decide +kernel
theorem dX1_setLine_16 : decode cX1_setLine 16 = .ok (.aload_n 0, 1) := by decide +kernel
theorem dX1_setLine_17 : decode cX1_setLine 17 = .ok (.getfield 22, 3) := by decide +kernel
theorem dX1_setLine_20 : decode cX1_setLine 20 = .ok (.iload_n 1, 1) := by decide +kernel
theorem dX1_setLine_21 : decode cX1_setLine 21 = .ok (.iload 4, 2) := by decide +kernel
theorem dX1_setLine_23 : decode cX1_setLine 23 = .ok (.i2l, 1) := by decide +kernel
theorem dX1_setLine_24 : decode cX1_setLine 24 = .ok (.lastore, 1) := by decide +kernel
theorem dX1_setLine_25 : decode cX1_setLine 25 = .ok (.return_, 1) := by decide +kernel
theorem dX1_setBorder_0 : decode cX1_setBorder 0 = .ok (.aload_n 0, 1) := by decide +kernel
theorem dX1_setBorder_1 : decode cX1_setBorder 1 = .ok (.iload_n 1, 1) := by decide +kernel
theorem dX1_setBorder_2 : decode cX1_setBorder 2 = .ok (.invokevirtual 124, 3) := by decide +kernel
theorem dX1_setBorder_5 : decode cX1_setBorder 5 = .ok (.aload_n 0, 1) := by decide +kernel
theorem dX1_setBorder_6 : decode cX1_setBorder 6 = .ok (.iload_n 2, 1) := by decide +kernel
theorem dX1_setBorder_7 : decode cX1_setBorder 7 = .ok (.invokevirtual 124, 3) := by decide +kernel
theorem dX1_setBorder_10 : decode cX1_setBorder 10 = .ok (.isub, 1) := by decide +kernel
theorem dX1_setBorder_11 : decode cX1_setBorder 11 = .ok (.istore 4, 2) := by decide +kernel
theorem dX1_setBorder_13 : decode cX1_setBorder 13 = .ok (.iload_n 3, 1) := by decide +kernel
theorem dX1_setBorder_14 : decode cX1_setBorder 14 = .ok (.ifCond .eq 25, 3) := by decide +kernel
theorem dX1_setBorder_17 : decode cX1_setBorder 17 = .ok (.iload 4, 2) := by decide +kernel
theorem dX1_setBorder_19 : decode cX1_setBorder 19 = .ok (.aload_n 0, 1) := by decide +kernel
theorem dX1_setBorder_20 : decode cX1_setBorder 20 = .ok (.getfield 9, 3) := by decide +kernel
theorem dX1_setBorder_23 : decode cX1_setBorder 23 = .ok (.iload_n 2, 1) := by decide +kernel
theorem dX1_setBorder_24 : decode cX1_setBorder 24 = .ok (.invokevirtual 127, 3) := by decide +kernel
theorem dX1_setBorder_27 : decode cX1_setBorder 27 = .ok (.aload_n 0, 1) := by decide +kernel
theorem dX1_setBorder_28 : decode cX1_setBorder 28 = .ok (.getfield 9, 3) := by decide +kernel
theorem dX1_setBorder_31 : decode cX1_setBorder 31 = .ok (.iload_n 1, 1) := by decide +kernel
theorem dX1_setBorder_32 : decode cX1_setBorder 32 = .ok (.invokevirtual 127, 3) := by decide +kernel
theorem dX1_setBorder_35 : decode cX1_setBorder 35 = .ok (.isub, 1) := by decide +kernel
theorem dX1_setBorder_36 : decode cX1_setBorder 36 = .ok (.iadd, 1) := by decide +kernel
theorem dX1_setBorder_37 : decode cX1_setBorder 37 = .ok (.istore 4, 2) := by decide +kernel
theorem dX1_setBorder_39 : decode cX1_setBorder 39 = .ok (.aload_n 0, 1) := by decide +kernel
theorem dX1_setBorder_40 : decode cX1_setBorder 40 = .ok (.iconst 4, 1) := by decide +kernel
theorem dX1_setBorder_41 : decode cX1_setBorder 41 = .ok (.iload_n 1, 1) := by decide +kernel
theorem dX1_setBorder_42 : decode cX1_setBorder 42 = .ok (.iadd, 1) := by decide +kernel
theorem dX1_setBorder_43 : decode cX1_setBorder 43 = .ok (.aload_n 0, 1) := by decide +kernel
theorem dX1_setBorder_44 : decode cX1_setBorder 44 = .ok (.getfield 9, 3) := by decide +kernel
theorem dX1_setBorder_47 : decode cX1_setBorder 47 = .ok (.getfield 130, 3) := by decide +kernel
theorem dX1_setBorder_50 : decode cX1_setBorder 50 = .ok (.iload_n 1, 1) := by decide +kernel
theorem dX1_setBorder_51 : decode cX1_setBorder 51 = .ok (.iaload, 1) := by decide +kernel
theorem dX1_setBorder_52 : decode cX1_setBorder 52 = .ok (.aload_n 0, 1) := by decide +kernel
theorem dX1_setBorder_53 : decode cX1_setBorder 53 = .ok (.getfield 9, 3) := by decide +kernel
theorem dX1_setBorder_56 : decode cX1_setBorder 56 = .ok (.getfield 130, 3) := by decide +kernel
theorem dX1_setBorder_59 : decode cX1_setBorder 59 = .ok (.iload_n 2, 1) := by decide +kernel
theorem dX1_setBorder_60 : decode cX1_setBorder 60 = .ok (.iaload, 1) := by decide +kernel
theorem dX1_setBorder_61 : decode cX1_setBorder 61 = .ok (.isub, 1) := by decide +kernel
theorem dX1_setBorder_62 : decode cX1_setBorder 62 = .ok (.aload_n 0, 1) := by decide +kernel
theorem dX1_setBorder_63 : decode cX1_setBorder 63 = .ok (.getfield 9, 3) := by decide +kernel
theorem dX1_setBorder_66 : decode cX1_setBorder 66 = .ok (.getfield 132, 3) := by decide +kernel
theorem dX1_setBorder_69 : decode cX1_setBorder 69 = .ok (.iload_n 1, 1) := by decide +kernel
theorem dX1_setBorder_70 : decode cX1_setBorder 70 = .ok (.iaload, 1) := by decide +kernel
theorem dX1_setBorder_71 : decode cX1_setBorder 71 = .ok (.aload_n 0, 1) := by decide +kernel
theorem dX1_setBorder_72 : decode cX1_setBorder 72 = .ok (.getfield 9, 3) := by decide +kernel
theorem dX1_setBorder_75 : decode cX1_setBorder 75 = .ok (.getfield 132, 3) := by decide +kernel
theorem dX1_setBorder_78 : decode cX1_setBorder 78 = .ok (.iload_n 2, 1) := by decide +kernel
theorem dX1_setBorder_79 : decode cX1_setBorder 79 = .ok (.iaload, 1) := by decide +kernel
theorem dX1_setBorder_80 : decode cX1_setBorder 80 = .ok (.isub, 1) := by decide +kernel
theorem dX1_setBorder_81 : decode cX1_setBorder 81 = .ok (.iload 4, 2) := by decide +kernel
theorem dX1_setBorder_83 : decode cX1_setBorder 83 = .ok (.invokevirtual 116, 3) := by decide +kernel
theorem dX1_setBorder_86 : decode cX1_setBorder 86 = .ok (.return_, 1) := by decide +kernel
theorem dX1_fromOrigin_0 : decode cX1_fromOrigin 0 = .ok (.aload_n 0, 1) := by decide +kernel
theorem dX1_fromOrigin_1 : decode cX1_fromOrigin 1 = .ok (.getfield 9, 3) := by decide +kernel
theorem dX1_fromOrigin_4 : decode cX1_fromOrigin 4 = .ok (.getfield 130, 3) := by decide +kernel
theorem dX1_fromOrigin_7 : decode cX1_fromOrigin 7 = .ok (.iload_n 1, 1) := by decide +kernel
theorem dX1_fromOrigin_8 : decode cX1_fromOrigin 8 = .ok (.iaload, 1) := by decide +kernel
theorem dX1_fromOrigin_9 : decode cX1_fromOrigin 9 = .ok (.aload_n 0, 1) := by decide +kernel
theorem dX1_fromOrigin_10 : decode cX1_fromOrigin 10 = .ok (.getfield 9, 3) := by decide +kernel
theorem dX1_fromOrigin_13 : decode cX1_fromOrigin 13 = .ok (.getfield 130, 3) := by decide +kernel
theorem dX1_fromOrigin_16 : decode cX1_fromOrigin 16 = .ok (.iload_n 1, 1) := by decide +kernel
theorem dX1_fromOrigin_17 : decode cX1_fromOrigin 17 = .ok (.iaload, 1) := by decide +kernel
theorem dX1_fromOrigin_18 : decode cX1_fromOrigin 18 = .ok (.imul, 1) := by decide +kernel
theorem dX1_fromOrigin_19 : decode cX1_fromOrigin 19 = .ok (.aload_n 0, 1) := by decide +kernel
theorem dX1_fromOrigin_20 : decode cX1_fromOrigin 20 = .ok (.getfield 9, 3) := by decide +kernel
theorem dX1_fromOrigin_23 : decode cX1_fromOrigin 23 = .ok (.getfield 132, 3) := by decide +kernel
theorem dX1_fromOrigin_26 : decode cX1_fromOrigin 26 = .ok (.iload_n 1, 1) := by decide +kernel
theorem dX1_fromOrigin_27 : decode cX1_fromOrigin 27 = .ok (.iaload, 1) := by decide +kernel
theorem dX1_fromOrigin_28 : decode cX1_fromOrigin 28 = .ok (.aload_n 0, 1) := by decide +kernel
theorem dX1_fromOrigin_29 : decode cX1_fromOrigin 29 = .ok (.getfield 9, 3) := by decide +kernel
theorem dX1_fromOrigin_32 : decode cX1_fromOrigin 32 = .ok (.getfield 132, 3) := by decide +kernel
theorem dX1_fromOrigin_35 : decode cX1_fromOrigin 35 = .ok (.iload_n 1, 1) := by decide +kernel
theorem dX1_fromOrigin_36 : decode cX1_fromOrigin 36 = .ok (.iaload, 1) := by decide +kernel
theorem dX1_fromOrigin_37 : decode cX1_fromOrigin 37 = .ok (.imul, 1) := by decide +kernel
theorem dX1_fromOrigin_38 : decode cX1_fromOrigin 38 = .ok (.iadd, 1) := by decide +kernel
theorem dX1_fromOrigin_39 : decode cX1_fromOrigin 39 = .ok (.ireturn, 1) := by decide +kernel
theorem dX1_innerSide_0 : decode cX1_innerSide 0 = .ok (.aload_n 0, 1) := by decide +kernel
theorem dX1_innerSide_1 : decode cX1_innerSide 1 = .ok (.getfield 22, 3) := by decide +kernel
theorem dX1_innerSide_4 : decode cX1_innerSide 4 = .ok (.iload_n 1, 1) := by decide +kernel
theorem dX1_innerSide_5 : decode cX1_innerSide 5 = .ok (.laload, 1) := by decide +kernel
theorem dX1_innerSide_6 : decode cX1_innerSide 6 = .ok (.aload_n 0, 1) := by decide +kernel
theorem dX1_innerSide_7 : decode cX1_innerSide 7 = .ok (.getfield 30, 3) := by decide +kernel
theorem dX1_innerSide_10 : decode cX1_innerSide 10 = .ok (.getfield 103, 3) := by decide +kernel
theorem dX1_innerSide_13 : decode cX1_innerSide 13 = .ok (.iload_n 2, 1) := by decide +kernel
theorem dX1_innerSide_14 : decode cX1_innerSide 14 = .ok (.laload, 1) := by decide +kernel
theorem dX1_innerSide_15 : decode cX1_innerSide 15 = .ok (.lmul, 1) := by decide +kernel
theorem dX1_innerSide_16 : decode cX1_innerSide 16 = .ok (.aload_n 0, 1) := by decide +kernel
theorem dX1_innerSide_17 : decode cX1_innerSide 17 = .ok (.getfield 15, 3) := by decide +kernel
theorem dX1_innerSide_20 : decode cX1_innerSide 20 = .ok (.iload_n 1, 1) := by decide +kernel
theorem dX1_innerSide_21 : decode cX1_innerSide 21 = .ok (.laload, 1) := by decide +kernel
theorem dX1_innerSide_22 : decode cX1_innerSide 22 = .ok (.aload_n 0, 1) := by decide +kernel
theorem dX1_innerSide_23 : decode cX1_innerSide 23 = .ok (.getfield 30, 3) := by decide +kernel
theorem dX1_innerSide_26 : decode cX1_innerSide 26 = .ok (.getfield 95, 3) := by decide +kernel
theorem dX1_innerSide_29 : decode cX1_innerSide 29 = .ok (.iload_n 2, 1) := by decide +kernel
theorem dX1_innerSide_30 : decode cX1_innerSide 30 = .ok (.laload, 1) := by decide +kernel
theorem dX1_innerSide_31 : decode cX1_innerSide 31 = .ok (.lmul, 1) := by decide +kernel
theorem dX1_innerSide_32 : decode cX1_innerSide 32 = .ok (.lsub, 1) := by decide +kernel
theorem dX1_innerSide_33 : decode cX1_innerSide 33 = .ok (.aload_n 0, 1) := by decide +kernel
theorem dX1_innerSide_34 : decode cX1_innerSide 34 = .ok (.getfield 19, 3) := by decide +kernel
theorem dX1_innerSide_37 : decode cX1_innerSide 37 = .ok (.iload_n 1, 1) := by decide +kernel
theorem dX1_innerSide_38 : decode cX1_innerSide 38 = .ok (.laload, 1) := by decide +kernel
theorem dX1_innerSide_39 : decode cX1_innerSide 39 = .ok (.aload_n 0, 1) := by decide +kernel
theorem dX1_innerSide_40 : decode cX1_innerSide 40 = .ok (.getfield 30, 3) := by decide +kernel
theorem dX1_innerSide_43 : decode cX1_innerSide 43 = .ok (.getfield 98, 3) := by decide +kernel
theorem dX1_innerSide_46 : decode cX1_innerSide 46 = .ok (.iload_n 2, 1) := by decide +kernel
theorem dX1_innerSide_47 : decode cX1_innerSide 47 = .ok (.laload, 1) := by decide +kernel
theorem dX1_innerSide_48 : decode cX1_innerSide 48 = .ok (.lmul, 1) := by decide +kernel
theorem dX1_innerSide_49 : decode cX1_innerSide 49 = .ok (.lsub, 1) := by decide +kernel
theorem dX1_innerSide_50 : decode cX1_innerSide 50 = .ok (.lreturn, 1) := by decide +kernel
theorem dX1_cut_0 : decode cX1_cut 0 = .ok (.iconst 0, 1) := by decide +kernel
theorem dX1_cut_1 : decode cX1_cut 1 = .ok (.istore_n 2, 1) := by decide +kernel
theorem dX1_cut_2 : decode cX1_cut 2 = .ok (.iconst 0, 1) := by decide +kernel
theorem dX1_cut_3 : decode cX1_cut 3 = .ok (.istore_n 3, 1) := by decide +kernel
theorem dX1_cut_4 : decode cX1_cut 4 = .ok (.iconst 0, 1) := by decide +kernel
theorem dX1_cut_5 : decode cX1_cut 5 = .ok (.istore 4, 2) := by decide +kernel
theorem dX1_cut_7 : decode cX1_cut 7 = .ok (.iload 4, 2) := by decide +kernel
theorem dX1_cut_9 : decode cX1_cut 9 = .ok (.aload_n 0, 1) := by decide +kernel
theorem dX1_cut_10 : decode cX1_cut 10 = .ok (.getfield 30, 3) := by decide +kernel
theorem dX1_cut_13 : decode cX1_cut 13 = .ok (.getfield 56, 3) := by decide +kernel
theorem dX1_cut_16 : decode cX1_cut 16 = .ok (.if_icmp .ge 63, 3) := by decide +kernel
theorem dX1_cut_19 : decode cX1_cut 19 = .ok (.aload_n 0, 1) := by decide +kernel
theorem dX1_cut_20 : decode cX1_cut 20 = .ok (.getfield 37, 3) := by decide +kernel
theorem dX1_cut_23 : decode cX1_cut 23 = .ok (.iload 4, 2) := by decide +kernel
theorem dX1_cut_25 : decode cX1_cut 25 = .ok (.aload_n 0, 1) := by decide +kernel
theorem dX1_cut_26 : decode cX1_cut 26 = .ok (.iload_n 1, 1) := by decide +kernel
theorem dX1_cut_27 : decode cX1_cut 27 = .ok (.iload 4, 2) := by decide +kernel
theorem dX1_cut_29 : decode cX1_cut 29 = .ok (.invokevirtual 85, 3) := by decide +kernel
theorem dX1_cut_32 : decode cX1_cut 32 = .ok (.lastore, 1) := by decide +kernel
theorem dX1_cut_33 : decode cX1_cut 33 = .ok (.iload_n 2, 1) := by decide +kernel
theorem dX1_cut_34 : decode cX1_cut 34 = .ok (.aload_n 0, 1) := by decide +kernel
theorem dX1_cut_35 : decode cX1_cut 35 = .ok (.getfield 37, 3) := by decide +kernel
theorem dX1_cut_38 : decode cX1_cut 38 = .ok (.iload 4, 2) := by decide +kernel
theorem dX1_cut_40 : decode cX1_cut 40 = .ok (.laload, 1) := by decide +kernel
theorem dX1_cut_41 : decode cX1_cut 41 = .ok (.lconst 0, 1) := by decide +kernel
theorem dX1_cut_42 : decode cX1_cut 42 = .ok (.lcmp, 1) := by decide +kernel
theorem dX1_cut_43 : decode cX1_cut 43 = .ok (.ifCond .le 7, 3) := by decide +kernel
theorem dX1_cut_46 : decode cX1_cut 46 = .ok (.iconst 1, 1) := by decide +kernel
theorem dX1_cut_47 : decode cX1_cut 47 = .ok (.goto 4, 3) := by decide +kernel
theorem dX1_cut_50 : decode cX1_cut 50 = .ok (.iconst 0, 1) := by decide +kernel
theorem dX1_cut_51 : decode cX1_cut 51 = .ok (.ior, 1) := by decide +kernel
theorem dX1_cut_52 : decode cX1_cut 52 = .ok (.istore_n 2, 1) := by decide +kernel
theorem dX1_cut_53 : decode cX1_cut 53 = .ok (.iload_n 3, 1) := by decide +kernel
theorem dX1_cut_54 : decode cX1_cut 54 = .ok (.aload_n 0, 1) := by decide +kernel
theorem dX1_cut_55 : decode cX1_cut 55 = .ok (.getfield 37, 3) := by decide +kernel
theorem dX1_cut_58 : decode cX1_cut 58 = .ok (.iload 4, 2) := by decide +kernel
theorem dX1_cut_60 : decode cX1_cut 60 = .ok (.laload, 1) := by decide +kernel
theorem dX1_cut_61 : decode cX1_cut 61 = .ok (.lconst 0, 1) := by decide +kernel
theorem dX1_cut_62 : decode cX1_cut 62 = .ok (.lcmp, 1) := by decide +kernel
theorem dX1_cut_63 : decode cX1_cut 63 = .ok (.ifCond .ge 7, 3) := by decide +kernel
theorem dX1_cut_66 : decode cX1_cut 66 = .ok (.iconst 1, 1) := by decide +kernel
theorem dX1_cut_67 : decode cX1_cut 67 = .ok (.goto 4, 3) := by decide +kernel
theorem dX1_cut_70 : decode cX1_cut 70 = .ok (.iconst 0, 1) := by decide +kernel
theorem dX1_cut_71 : decode cX1_cut 71 = .ok (.ior, 1) := by decide +kernel
theorem dX1_cut_72 : decode cX1_cut 72 = .ok (.istore_n 3, 1) := by decide +kernel
theorem dX1_cut_73 : decode cX1_cut 73 = .ok (.iinc 4 1, 3) := by decide +kernel
theorem dX1_cut_76 : decode cX1_cut 76 = .ok (.goto (-69), 3) := by decide +kernel
theorem dX1_cut_79 : decode cX1_cut 79 = .ok (.iload_n 3, 1) := by decide +kernel
theorem dX1_cut_80 : decode cX1_cut 80 = .ok (.ifCond .ne 4, 3) := by decide +kernel
theorem dX1_cut_83 : decode cX1_cut 83 = .ok (.return_, 1) := by decide +kernel
theorem dX1_cut_84 : decode cX1_cut 84 = .ok (.aload_n 0, 1) := by decide +kernel
theorem dX1_cut_85 : decode cX1_cut 85 = .ok (.getfield 34, 3) := by decide +kernel
theorem dX1_cut_88 : decode cX1_cut 88 = .ok (.iconst 0, 1) := by decide +kernel
theorem dX1_cut_89 : decode cX1_cut 89 = .ok (.putfield 56, 3) := by decide +kernel
theorem dX1_cut_92 : decode cX1_cut 92 = .ok (.iload_n 2, 1) := by decide +kernel
theorem dX1_cut_93 : decode cX1_cut 93 = .ok (.ifCond .ne 11, 3) := by decide +kernel
theorem dX1_cut_96 : decode cX1_cut 96 = .ok (.aload_n 0, 1) := by decide +kernel
theorem dX1_cut_97 : decode cX1_cut 97 = .ok (.iload_n 1, 1) := by decide +kernel
theorem dX1_cut_98 : decode cX1_cut 98 = .ok (.invokevirtual 134, 3) := by decide +kernel
theorem dX1_cut_101 : decode cX1_cut 101 = .ok (.goto 27, 3) := by decide +kernel
theorem dX1_cut_104 : decode cX1_cut 104 = .ok (.aload_n 0, 1) := by decide +kernel
theorem dX1_cut_105 : decode cX1_cut 105 = .ok (.getfield 30, 3) := by decide +kernel
theorem dX1_cut_108 : decode cX1_cut 108 = .ok (.getfield 56, 3) := by decide +kernel
theorem dX1_cut_111 : decode cX1_cut 111 = .ok (.iconst 2, 1) := by decide +kernel
theorem dX1_cut_112 : decode cX1_cut 112 = .ok (.if_icmp .ne 11, 3) := by decide +kernel
theorem dX1_cut_115 : decode cX1_cut 115 = .ok (.aload_n 0, 1) := by decide +kernel
theorem dX1_cut_116 : decode cX1_cut 116 = .ok (.iload_n 1, 1) := by decide +kernel
theorem dX1_cut_117 : decode cX1_cut 117 = .ok (.invokevirtual 137, 3) := by decide +kernel
theorem dX1_cut_120 : decode cX1_cut 120 = .ok (.goto 8, 3) := by decide +kernel
theorem dX1_cut_123 : decode cX1_cut 123 = .ok (.aload_n 0, 1) := by decide +kernel
theorem dX1_cut_124 : decode cX1_cut 124 = .ok (.iload_n 1, 1) := by decide +kernel
theorem dX1_cut_125 : decode cX1_cut 125 = .ok (.invokevirtual 140, 3) := by decide +kernel
theorem dX1_cut_128 : decode cX1_cut 128 = .ok (.aload_n 0, 1) := by decide +kernel
theorem dX1_cut_129 : decode cX1_cut 129 = .ok (.getfield 30, 3) := by decide +kernel
theorem dX1_cut_132 : decode cX1_cut 132 = .ok (.astore 4, 2) := by decide +kernel
theorem dX1_cut_134 : decode cX1_cut 134 = .ok (.aload_n 0, 1) := by decide +kernel
theorem dX1_cut_135 : decode cX1_cut 135 = .ok (.aload_n 0, 1) := by decide +kernel
theorem dX1_cut_136 : decode cX1_cut 136 = .ok (.getfield 34, 3) := by decide +kernel
theorem dX1_cut_139 : decode cX1_cut 139 = .ok (.putfield 30, 3) := by decide +kernel
theorem dX1_cut_142 : decode cX1_cut 142 = .ok (.aload_n 0, 1) := by decide +kernel
theorem dX1_cut_143 : decode cX1_cut 143 = .ok (.aload 4, 2) := by decide +kernel
theorem dX1_cut_145 : decode cX1_cut 145 = .ok (.putfield 34, 3) := by decide +kernel
theorem dX1_cut_148 : decode cX1_cut 148 = .ok (.return_, 1) := by decide +kernel
theorem dX1_leaveTouched_0 : decode cX1_leaveTouched 0 = .ok (.iconst 0, 1) := by decide +kernel
theorem dX1_leaveTouched_1 : decode cX1_leaveTouched 1 = .ok (.istore_n 2, 1) := by decide +kernel
theorem dX1_leaveTouched_2 : decode cX1_leaveTouched 2 = .ok (.iload_n 2, 1) := by decide +kernel
theorem dX1_leaveTouched_3 : decode cX1_leaveTouched 3 = .ok (.aload_n 0, 1) := by decide +kernel
theorem dX1_leaveTouched_4 : decode cX1_leaveTouched 4 = .ok (.getfield 30, 3) := by decide +kernel
theorem dX1_leaveTouched_7 : decode cX1_leaveTouched 7 = .ok (.getfield 56, 3) := by decide +kernel
theorem dX1_leaveTouched_10 : decode cX1_leaveTouched 10 = .ok (.if_icmp .ge 33, 3) := by decide +kernel
theorem dX1_leaveTouched_13 : decode cX1_leaveTouched 13 = .ok (.aload_n 0, 1) := by decide +kernel
theorem dX1_leaveTouched_14 : decode cX1_leaveTouched 14 = .ok (.getfield 37, 3) := by decide +kernel
theorem dX1_leaveTouched_17 : decode cX1_leaveTouched 17 = .ok (.iload_n 2, 1) := by decide +kernel
theorem dX1_leaveTouched_18 : decode cX1_leaveTouched 18 = .ok (.laload, 1) := by decide +kernel
theorem dX1_leaveTouched_19 : decode cX1_leaveTouched 19 = .ok (.lconst 0, 1) := by decide +kernel
theorem dX1_leaveTouched_20 : decode cX1_leaveTouched 20 = .ok (.lcmp, 1) := by decide +kernel
theorem dX1_leaveTouched_21 : decode cX1_leaveTouched 21 = .ok (.ifCond .ne 16, 3) := by decide +kernel
theorem dX1_leaveTouched_24 : decode cX1_leaveTouched 24 = .ok (.aload_n 0, 1) := by decide +kernel
theorem dX1_leaveTouched_25 : decode cX1_leaveTouched 25 = .ok (.getfield 34, 3) := by decide +kernel
theorem dX1_leaveTouched_28 : decode cX1_leaveTouched 28 = .ok (.aload_n 0, 1) := by decide +kernel
theorem dX1_leaveTouched_29 : decode cX1_leaveTouched 29 = .ok (.getfield 30, 3) := by decide +kernel
theorem dX1_leaveTouched_32 : decode cX1_leaveTouched 32 = .ok (.iload_n 2, 1) := by decide +kernel
theorem dX1_leaveTouched_33 : decode cX1_leaveTouched 33 = .ok (.iload_n 1, 1) := by decide +kernel
theorem dX1_leaveTouched_34 : decode cX1_leaveTouched 34 = .ok (.invokevirtual 143, 3) := by decide +kernel
theorem dX1_leaveTouched_37 : decode cX1_leaveTouched 37 = .ok (.iinc 2 1, 3) := by decide +kernel
theorem dX1_leaveTouched_40 : decode cX1_leaveTouched 40 = .ok (.goto (-38), 3) := by decide +kernel
theorem dX1_leaveTouched_43 : decode cX1_leaveTouched 43 = .ok (.return_, 1) := by decide +kernel
theorem dX1_cutPiece_0 : decode cX1_cutPiece 0 = .ok (.iconst 0, 1) := by decide +kernel
theorem dX1_cutPiece_1 : decode cX1_cutPiece 1 = .ok (.istore_n 2, 1) := by decide +kernel
theorem dX1_cutPiece_2 : decode cX1_cutPiece 2 = .ok (.iload_n 2, 1) := by decide +kernel
theorem dX1_cutPiece_3 : decode cX1_cutPiece 3 = .ok (.aload_n 0, 1) := by decide +kernel
theorem dX1_cutPiece_4 : decode cX1_cutPiece 4 = .ok (.getfield 30, 3) := by decide +kernel
theorem dX1_cutPiece_7 : decode cX1_cutPiece 7 = .ok (.getfield 56, 3) := by decide +kernel
theorem dX1_cutPiece_10 : decode cX1_cutPiece 10 = .ok (.if_icmp .ge 67, 3) := by decide +kernel
theorem dX1_cutPiece_13 : decode cX1_cutPiece 13 = .ok (.aload_n 0, 1) := by decide +kernel
theorem dX1_cutPiece_14 : decode cX1_cutPiece 14 = .ok (.getfield 37, 3) := by decide +kernel
theorem dX1_cutPiece_17 : decode cX1_cutPiece 17 = .ok (.iload_n 2, 1) := by decide +kernel
theorem dX1_cutPiece_18 : decode cX1_cutPiece 18 = .ok (.laload, 1) := by decide +kernel
theorem dX1_cutPiece_19 : decode cX1_cutPiece 19 = .ok (.lconst 0, 1) := by decide +kernel
theorem dX1_cutPiece_20 : decode cX1_cutPiece 20 = .ok (.lcmp, 1) := by decide +kernel
theorem dX1_cutPiece_21 : decode cX1_cutPiece 21 = .ok (.ifCond .le 27, 3) := by decide +kernel
theorem dX1_cutPiece_24 : decode cX1_cutPiece 24 = .ok (.aload_n 0, 1) := by decide +kernel
theorem dX1_cutPiece_25 : decode cX1_cutPiece 25 = .ok (.getfield 34, 3) := by decide +kernel
theorem dX1_cutPiece_28 : decode cX1_cutPiece 28 = .ok (.aload_n 0, 1) := by decide +kernel
theorem dX1_cutPiece_29 : decode cX1_cutPiece 29 = .ok (.getfield 30, 3) := by decide +kernel
theorem dX1_cutPiece_32 : decode cX1_cutPiece 32 = .ok (.iload_n 2, 1) := by decide +kernel
theorem dX1_cutPiece_33 : decode cX1_cutPiece 33 = .ok (.aload_n 0, 1) := by decide +kernel
theorem dX1_cutPiece_34 : decode cX1_cutPiece 34 = .ok (.getfield 30, 3) := by decide +kernel
theorem dX1_cutPiece_37 : decode cX1_cutPiece 37 = .ok (.getfield 147, 3) := by decide +kernel
theorem dX1_cutPiece_40 : decode cX1_cutPiece 40 = .ok (.iload_n 2, 1) := by decide +kernel
theorem dX1_cutPiece_41 : decode cX1_cutPiece 41 = .ok (.iaload, 1) := by decide +kernel
theorem dX1_cutPiece_42 : decode cX1_cutPiece 42 = .ok (.invokevirtual 143, 3) := by decide +kernel
theorem dX1_cutPiece_45 : decode cX1_cutPiece 45 = .ok (.goto 26, 3) := by decide +kernel
theorem dX1_cutPiece_48 : decode cX1_cutPiece 48 = .ok (.aload_n 0, 1) := by decide +kernel
theorem dX1_cutPiece_49 : decode cX1_cutPiece 49 = .ok (.aload_n 0, 1) := by decide +kernel
theorem dX1_cutPiece_50 : decode cX1_cutPiece 50 = .ok (.getfield 30, 3) := by decide +kernel
theorem dX1_cutPiece_53 : decode cX1_cutPiece 53 = .ok (.getfield 147, 3) := by decide +kernel
theorem dX1_cutPiece_56 : decode cX1_cutPiece 56 = .ok (.iload_n 2, 1) := by decide +kernel
theorem dX1_cutPiece_57 : decode cX1_cutPiece 57 = .ok (.iaload, 1) := by decide +kernel
theorem dX1_cutPiece_58 : decode cX1_cutPiece 58 = .ok (.iload_n 1, 1) := by decide +kernel
theorem dX1_cutPiece_59 : decode cX1_cutPiece 59 = .ok (.aload_n 0, 1) := by decide +kernel
theorem dX1_cutPiece_60 : decode cX1_cutPiece 60 = .ok (.getfield 30, 3) := by decide +kernel
theorem dX1_cutPiece_63 : decode cX1_cutPiece 63 = .ok (.getfield 147, 3) := by decide +kernel
theorem dX1_cutPiece_66 : decode cX1_cutPiece 66 = .ok (.iload_n 2, 1) := by decide +kernel
theorem dX1_cutPiece_67 : decode cX1_cutPiece 67 = .ok (.iaload, 1) := by decide +kernel
theorem dX1_cutPiece_68 : decode cX1_cutPiece 68 = .ok (.invokevirtual 150, 3) := by decide +kernel
theorem dX1_cutPiece_71 : decode cX1_cutPiece 71 = .ok (.iinc 2 1, 3) := by decide +kernel
theorem dX1_cutPiece_74 : decode cX1_cutPiece 74 = .ok (.goto (-72), 3) := by decide +kernel
theorem dX1_cutPiece_77 : decode cX1_cutPiece 77 = .ok (.return_, 1) := by decide +kernel
theorem dX1_cutRing_0 : decode cX1_cutRing 0 = .ok (.iconst 0, 1) := by decide +kernel
theorem dX1_cutRing_1 : decode cX1_cutRing 1 = .ok (.istore_n 2, 1) := by decide +kernel
theorem dX1_cutRing_2 : decode cX1_cutRing 2 = .ok (.iload_n 2, 1) := by decide +kernel
theorem dX1_cutRing_3 : decode cX1_cutRing 3 = .ok (.aload_n 0, 1) := by decide +kernel
theorem dX1_cutRing_4 : decode cX1_cutRing 4 = .ok (.getfield 30, 3) := by decide +kernel
theorem dX1_cutRing_7 : decode cX1_cutRing 7 = .ok (.getfield 56, 3) := by decide +kernel
theorem dX1_cutRing_10 : decode cX1_cutRing 10 = .ok (.if_icmp .ge 175, 3) := by decide +kernel
theorem dX1_cutRing_13 : decode cX1_cutRing 13 = .ok (.iload_n 2, 1) := by decide +kernel
theorem dX1_cutRing_14 : decode cX1_cutRing 14 = .ok (.iconst 1, 1) := by decide +kernel
theorem dX1_cutRing_15 : decode cX1_cutRing 15 = .ok (.iadd, 1) := by decide +kernel
theorem dX1_cutRing_16 : decode cX1_cutRing 16 = .ok (.aload_n 0, 1) := by decide +kernel
theorem dX1_cutRing_17 : decode cX1_cutRing 17 = .ok (.getfield 30, 3) := by decide +kernel
theorem dX1_cutRing_20 : decode cX1_cutRing 20 = .ok (.getfield 56, 3) := by decide +kernel
theorem dX1_cutRing_23 : decode cX1_cutRing 23 = .ok (.if_icmp .ge 9, 3) := by decide +kernel
theorem dX1_cutRing_26 : decode cX1_cutRing 26 = .ok (.iload_n 2, 1) := by decide +kernel
theorem dX1_cutRing_27 : decode cX1_cutRing 27 = .ok (.iconst 1, 1) := by decide +kernel
theorem dX1_cutRing_28 : decode cX1_cutRing 28 = .ok (.iadd, 1) := by decide +kernel
theorem dX1_cutRing_29 : decode cX1_cutRing 29 = .ok (.goto 4, 3) := by decide +kernel
theorem dX1_cutRing_32 : decode cX1_cutRing 32 = .ok (.iconst 0, 1) := by decide +kernel
theorem dX1_cutRing_33 : decode cX1_cutRing 33 = .ok (.istore_n 3, 1) := by decide +kernel
theorem dX1_cutRing_34 : decode cX1_cutRing 34 = .ok (.aload_n 0, 1) := by decide +kernel
theorem dX1_cutRing_35 : decode cX1_cutRing 35 = .ok (.getfield 37, 3) := by decide +kernel
theorem dX1_cutRing_38 : decode cX1_cutRing 38 = .ok (.iload_n 2, 1) := by decide +kernel
theorem dX1_cutRing_39 : decode cX1_cutRing 39 = .ok (.laload, 1) := by decide +kernel
theorem dX1_cutRing_40 : decode cX1_cutRing 40 = .ok (.lconst 0, 1) := by decide +kernel
theorem dX1_cutRing_41 : decode cX1_cutRing 41 = .ok (.lcmp, 1) := by decide +kernel
theorem dX1_cutRing_42 : decode cX1_cutRing 42 = .ok (.ifCond .le 53, 3) := by decide +kernel
theorem dX1_cutRing_45 : decode cX1_cutRing 45 = .ok (.aload_n 0, 1) := by decide +kernel
theorem dX1_cutRing_46 : decode cX1_cutRing 46 = .ok (.getfield 34, 3) := by decide +kernel
theorem dX1_cutRing_49 : decode cX1_cutRing 49 = .ok (.aload_n 0, 1) := by decide +kernel
theorem dX1_cutRing_50 : decode cX1_cutRing 50 = .ok (.getfield 30, 3) := by decide +kernel
theorem dX1_cutRing_53 : decode cX1_cutRing 53 = .ok (.iload_n 2, 1) := by decide +kernel
theorem dX1_cutRing_54 : decode cX1_cutRing 54 = .ok (.aload_n 0, 1) := by decide +kernel
theorem dX1_cutRing_55 : decode cX1_cutRing 55 = .ok (.getfield 30, 3) := by decide +kernel
theorem dX1_cutRing_58 : decode cX1_cutRing 58 = .ok (.getfield 147, 3) := by decide +kernel
theorem dX1_cutRing_61 : decode cX1_cutRing 61 = .ok (.iload_n 2, 1) := by decide +kernel
theorem dX1_cutRing_62 : decode cX1_cutRing 62 = .ok (.iaload, 1) := by decide +kernel
theorem dX1_cutRing_63 : decode cX1_cutRing 63 = .ok (.invokevirtual 143, 3) := by decide +kernel
theorem dX1_cutRing_66 : decode cX1_cutRing 66 = .ok (.aload_n 0, 1) := by decide +kernel
theorem dX1_cutRing_67 : decode cX1_cutRing 67 = .ok (.getfield 37, 3) := by decide +kernel
theorem dX1_cutRing_70 : decode cX1_cutRing 70 = .ok (.iload_n 3, 1) := by decide +kernel
theorem dX1_cutRing_71 : decode cX1_cutRing 71 = .ok (.laload, 1) := by decide +kernel
theorem dX1_cutRing_72 : decode cX1_cutRing 72 = .ok (.lconst 0, 1) := by decide +kernel
theorem dX1_cutRing_73 : decode cX1_cutRing 73 = .ok (.lcmp, 1) := by decide +kernel
theorem dX1_cutRing_74 : decode cX1_cutRing 74 = .ok (.ifCond .ge 105, 3) := by decide +kernel
theorem dX1_cutRing_77 : decode cX1_cutRing 77 = .ok (.aload_n 0, 1) := by decide +kernel
theorem dX1_cutRing_78 : decode cX1_cutRing 78 = .ok (.aload_n 0, 1) := by decide +kernel
theorem dX1_cutRing_79 : decode cX1_cutRing 79 = .ok (.getfield 30, 3) := by decide +kernel
theorem dX1_cutRing_82 : decode cX1_cutRing 82 = .ok (.getfield 147, 3) := by decide +kernel
theorem dX1_cutRing_85 : decode cX1_cutRing 85 = .ok (.iload_n 2, 1) := by decide +kernel
theorem dX1_cutRing_86 : decode cX1_cutRing 86 = .ok (.iaload, 1) := by decide +kernel
theorem dX1_cutRing_87 : decode cX1_cutRing 87 = .ok (.iload_n 1, 1) := by decide +kernel
theorem dX1_cutRing_88 : decode cX1_cutRing 88 = .ok (.iload_n 1, 1) := by decide +kernel
theorem dX1_cutRing_89 : decode cX1_cutRing 89 = .ok (.invokevirtual 150, 3) := by decide +kernel
theorem dX1_cutRing_92 : decode cX1_cutRing 92 = .ok (.goto 87, 3) := by decide +kernel
theorem dX1_cutRing_95 : decode cX1_cutRing 95 = .ok (.aload_n 0, 1) := by decide +kernel
theorem dX1_cutRing_96 : decode cX1_cutRing 96 = .ok (.getfield 37, 3) := by decide +kernel
theorem dX1_cutRing_99 : decode cX1_cutRing 99 = .ok (.iload_n 2, 1) := by decide +kernel
theorem dX1_cutRing_100 : decode cX1_cutRing 100 = .ok (.laload, 1) := by decide +kernel
theorem dX1_cutRing_101 : decode cX1_cutRing 101 = .ok (.lconst 0, 1) := by decide +kernel
theorem dX1_cutRing_102 : decode cX1_cutRing 102 = .ok (.lcmp, 1) := by decide +kernel
theorem dX1_cutRing_103 : decode cX1_cutRing 103 = .ok (.ifCond .ne 42, 3) := by decide +kernel
theorem dX1_cutRing_106 : decode cX1_cutRing 106 = .ok (.aload_n 0, 1) := by decide +kernel
theorem dX1_cutRing_107 : decode cX1_cutRing 107 = .ok (.getfield 34, 3) := by decide +kernel
theorem dX1_cutRing_110 : decode cX1_cutRing 110 = .ok (.aload_n 0, 1) := by decide +kernel
theorem dX1_cutRing_111 : decode cX1_cutRing 111 = .ok (.getfield 30, 3) := by decide +kernel
theorem dX1_cutRing_114 : decode cX1_cutRing 114 = .ok (.iload_n 2, 1) := by decide +kernel
theorem dX1_cutRing_115 : decode cX1_cutRing 115 = .ok (.aload_n 0, 1) := by decide +kernel
theorem dX1_cutRing_116 : decode cX1_cutRing 116 = .ok (.getfield 37, 3) := by decide +kernel
theorem dX1_cutRing_119 : decode cX1_cutRing 119 = .ok (.iload_n 3, 1) := by decide +kernel
theorem dX1_cutRing_120 : decode cX1_cutRing 120 = .ok (.laload, 1) := by decide +kernel
theorem dX1_cutRing_121 : decode cX1_cutRing 121 = .ok (.lconst 0, 1) := by decide +kernel
theorem dX1_cutRing_122 : decode cX1_cutRing 122 = .ok (.lcmp, 1) := by decide +kernel
theorem dX1_cutRing_123 : decode cX1_cutRing 123 = .ok (.ifCond .ge 7, 3) := by decide +kernel
theorem dX1_cutRing_126 : decode cX1_cutRing 126 = .ok (.iload_n 1, 1) := by decide +kernel
theorem dX1_cutRing_127 : decode cX1_cutRing 127 = .ok (.goto 12, 3) := by decide +kernel
theorem dX1_cutRing_130 : decode cX1_cutRing 130 = .ok (.aload_n 0, 1) := by decide +kernel
theorem dX1_cutRing_131 : decode cX1_cutRing 131 = .ok (.getfield 30, 3) := by decide +kernel
theorem dX1_cutRing_134 : decode cX1_cutRing 134 = .ok (.getfield 147, 3) := by decide +kernel
theorem dX1_cutRing_137 : decode cX1_cutRing 137 = .ok (.iload_n 2, 1) := by decide +kernel
theorem dX1_cutRing_138 : decode cX1_cutRing 138 = .ok (.iaload, 1) := by decide +kernel
theorem dX1_cutRing_139 : decode cX1_cutRing 139 = .ok (.invokevirtual 143, 3) := by decide +kernel
theorem dX1_cutRing_142 : decode cX1_cutRing 142 = .ok (.goto 37, 3) := by decide +kernel
theorem dX1_cutRing_145 : decode cX1_cutRing 145 = .ok (.aload_n 0, 1) := by decide +kernel
theorem dX1_cutRing_146 : decode cX1_cutRing 146 = .ok (.getfield 37, 3) := by decide +kernel
theorem dX1_cutRing_149 : decode cX1_cutRing 149 = .ok (.iload_n 3, 1) := by decide +kernel
theorem dX1_cutRing_150 : decode cX1_cutRing 150 = .ok (.laload, 1) := by decide +kernel
theorem dX1_cutRing_151 : decode cX1_cutRing 151 = .ok (.lconst 0, 1) := by decide +kernel
theorem dX1_cutRing_152 : decode cX1_cutRing 152 = .ok (.lcmp, 1) := by decide +kernel
theorem dX1_cutRing_153 : decode cX1_cutRing 153 = .ok (.ifCond .le 26, 3) := by decide +kernel
theorem dX1_cutRing_156 : decode cX1_cutRing 156 = .ok (.aload_n 0, 1) := by decide +kernel
theorem dX1_cutRing_157 : decode cX1_cutRing 157 = .ok (.aload_n 0, 1) := by decide +kernel
theorem dX1_cutRing_158 : decode cX1_cutRing 158 = .ok (.getfield 30, 3) := by decide +kernel
theorem dX1_cutRing_161 : decode cX1_cutRing 161 = .ok (.getfield 147, 3) := by decide +kernel
theorem dX1_cutRing_164 : decode cX1_cutRing 164 = .ok (.iload_n 2, 1) := by decide +kernel
theorem dX1_cutRing_165 : decode cX1_cutRing 165 = .ok (.iaload, 1) := by decide +kernel
theorem dX1_cutRing_166 : decode cX1_cutRing 166 = .ok (.iload_n 1, 1) := by decide +kernel
theorem dX1_cutRing_167 : decode cX1_cutRing 167 = .ok (.aload_n 0, 1) := by decide +kernel
theorem dX1_cutRing_168 : decode cX1_cutRing 168 = .ok (.getfield 30, 3) := by decide +kernel
theorem dX1_cutRing_171 : decode cX1_cutRing 171 = .ok (.getfield 147, 3) := by decide +kernel
theorem dX1_cutRing_174 : decode cX1_cutRing 174 = .ok (.iload_n 2, 1) := by decide +kernel
theorem dX1_cutRing_175 : decode cX1_cutRing 175 = .ok (.iaload, 1) := by decide +kernel
theorem dX1_cutRing_176 : decode cX1_cutRing 176 = .ok (.invokevirtual 150, 3) := by decide +kernel
theorem dX1_cutRing_179 : decode cX1_cutRing 179 = .ok (.iinc 2 1, 3) := by decide +kernel
theorem dX1_cutRing_182 : decode cX1_cutRing 182 = .ok (.goto (-180), 3) := by decide +kernel
theorem dX1_cutRing_185 : decode cX1_cutRing 185 = .ok (.return_, 1) := by decide +kernel
theorem dX1_addCrossing_0 : decode cX1_addCrossing 0 = .ok (.aload_n 0, 1) := by decide +kernel
theorem dX1_addCrossing_1 : decode cX1_addCrossing 1 = .ok (.getfield 15, 3) := by decide +kernel
theorem dX1_addCrossing_4 : decode cX1_addCrossing 4 = .ok (.iload_n 1, 1) := by decide +kernel
theorem dX1_addCrossing_5 : decode cX1_addCrossing 5 = .ok (.laload, 1) := by decide +kernel
theorem dX1_addCrossing_6 : decode cX1_addCrossing 6 = .ok (.aload_n 0, 1) := by decide +kernel
theorem dX1_addCrossing_7 : decode cX1_addCrossing 7 = .ok (.getfield 19, 3) := by decide +kernel
theorem dX1_addCrossing_10 : decode cX1_addCrossing 10 = .ok (.iload_n 2, 1) := by decide +kernel
theorem dX1_addCrossing_11 : decode cX1_addCrossing 11 = .ok (.laload, 1) := by decide +kernel
theorem dX1_addCrossing_12 : decode cX1_addCrossing 12 = .ok (.lmul, 1) := by decide +kernel
theorem dX1_addCrossing_13 : decode cX1_addCrossing 13 = .ok (.aload_n 0, 1) := by decide +kernel
theorem dX1_addCrossing_14 : decode cX1_addCrossing 14 = .ok (.getfield 15, 3) := by decide +kernel
theorem dX1_addCrossing_17 : decode cX1_addCrossing 17 = .ok (.iload_n 2, 1) := by decide +kernel
theorem dX1_addCrossing_18 : decode cX1_addCrossing 18 = .ok (.laload, 1) := by decide +kernel
theorem dX1_addCrossing_19 : decode cX1_addCrossing 19 = .ok (.aload_n 0, 1) := by decide +kernel
theorem dX1_addCrossing_20 : decode cX1_addCrossing 20 = .ok (.getfield 19, 3) := by decide +kernel
theorem dX1_addCrossing_23 : decode cX1_addCrossing 23 = .ok (.iload_n 1, 1) := by decide +kernel
theorem dX1_addCrossing_24 : decode cX1_addCrossing 24 = .ok (.laload, 1) := by decide +kernel
theorem dX1_addCrossing_25 : decode cX1_addCrossing 25 = .ok (.lmul, 1) := by decide +kernel
theorem dX1_addCrossing_26 : decode cX1_addCrossing 26 = .ok (.lsub, 1) := by decide +kernel
theorem dX1_addCrossing_27 : decode cX1_addCrossing 27 = .ok (.lstore 4, 2) := by decide +kernel
theorem dX1_addCrossing_29 : decode cX1_addCrossing 29 = .ok (.aload_n 0, 1) := by decide +kernel
theorem dX1_addCrossing_30 : decode cX1_addCrossing 30 = .ok (.getfield 22, 3) := by decide +kernel
theorem dX1_addCrossing_33 : decode cX1_addCrossing 33 = .ok (.iload_n 1, 1) := by decide +kernel
theorem dX1_addCrossing_34 : decode cX1_addCrossing 34 = .ok (.laload, 1) := by decide +kernel
theorem dX1_addCrossing_35 : decode cX1_addCrossing 35 = .ok (.aload_n 0, 1) := by decide +kernel
theorem dX1_addCrossing_36 : decode cX1_addCrossing 36 = .ok (.getfield 19, 3) := by decide +kernel
theorem dX1_addCrossing_39 : decode cX1_addCrossing 39 = .ok (.iload_n 2, 1) := by decide +kernel
theorem dX1_addCrossing_40 : decode cX1_addCrossing 40 = .ok (.laload, 1) := by decide +kernel
theorem dX1_addCrossing_41 : decode cX1_addCrossing 41 = .ok (.lmul, 1) := by decide +kernel
theorem dX1_addCrossing_42 : decode cX1_addCrossing 42 = .ok (.aload_n 0, 1) := by decide +kernel
theorem dX1_addCrossing_43 : decode cX1_addCrossing 43 = .ok (.getfield 22, 3) := by decide +kernel
theorem dX1_addCrossing_46 : decode cX1_addCrossing 46 = .ok (.iload_n 2, 1) := by decide +kernel
theorem dX1_addCrossing_47 : decode cX1_addCrossing 47 = .ok (.laload, 1) := by decide +kernel
theorem dX1_addCrossing_48 : decode cX1_addCrossing 48 = .ok (.aload_n 0, 1) := by decide +kernel
theorem dX1_addCrossing_49 : decode cX1_addCrossing 49 = .ok (.getfield 19, 3) := by decide +kernel
theorem dX1_addCrossing_52 : decode cX1_addCrossing 52 = .ok (.iload_n 1, 1) := by decide +kernel
theorem dX1_addCrossing_53 : decode cX1_addCrossing 53 = .ok (.laload, 1) := by decide +kernel
theorem dX1_addCrossing_54 : decode cX1_addCrossing 54 = .ok (.lmul, 1) := by decide +kernel
theorem dX1_addCrossing_55 : decode cX1_addCrossing 55 = .ok (.lsub, 1) := by decide +kernel
theorem dX1_addCrossing_56 : decode cX1_addCrossing 56 = .ok (.lstore 6, 2) := by decide +kernel
theorem dX1_addCrossing_58 : decode cX1_addCrossing 58 = .ok (.aload_n 0, 1) := by decide +kernel
theorem dX1_addCrossing_59 : decode cX1_addCrossing 59 = .ok (.getfield 15, 3) := by decide +kernel
theorem dX1_addCrossing_62 : decode cX1_addCrossing 62 = .ok (.iload_n 1, 1) := by decide +kernel
theorem dX1_addCrossing_63 : decode cX1_addCrossing 63 = .ok (.laload, 1) := by decide +kernel
theorem dX1_addCrossing_64 : decode cX1_addCrossing 64 = .ok (.aload_n 0, 1) := by decide +kernel
theorem dX1_addCrossing_65 : decode cX1_addCrossing 65 = .ok (.getfield 22, 3) := by decide +kernel
theorem dX1_addCrossing_68 : decode cX1_addCrossing 68 = .ok (.iload_n 2, 1) := by decide +kernel
theorem dX1_addCrossing_69 : decode cX1_addCrossing 69 = .ok (.laload, 1) := by decide +kernel
theorem dX1_addCrossing_70 : decode cX1_addCrossing 70 = .ok (.lmul, 1) := by decide +kernel
theorem dX1_addCrossing_71 : decode cX1_addCrossing 71 = .ok (.aload_n 0, 1) := by decide +kernel
theorem dX1_addCrossing_72 : decode cX1_addCrossing 72 = .ok (.getfield 15, 3) := by decide +kernel
theorem dX1_addCrossing_75 : decode cX1_addCrossing 75 = .ok (.iload_n 2, 1) := by decide +kernel
theorem dX1_addCrossing_76 : decode cX1_addCrossing 76 = .ok (.laload, 1) := by decide +kernel
theorem dX1_addCrossing_77 : decode cX1_addCrossing 77 = .ok (.aload_n 0, 1) := by decide +kernel
theorem dX1_addCrossing_78 : decode cX1_addCrossing 78 = .ok (.getfield 22, 3) := by decide +kernel
theorem dX1_addCrossing_81 : decode cX1_addCrossing 81 = .ok (.iload_n 1, 1) := by decide +kernel
theorem dX1_addCrossing_82 : decode cX1_addCrossing 82 = .ok (.laload, 1) := by decide +kernel
theorem dX1_addCrossing_83 : decode cX1_addCrossing 83 = .ok (.lmul, 1) := by decide +kernel
theorem dX1_addCrossing_84 : decode cX1_addCrossing 84 = .ok (.lsub, 1) := by decide +kernel
theorem dX1_addCrossing_85 : decode cX1_addCrossing 85 = .ok (.lstore 8, 2) := by decide +kernel
theorem dX1_addCrossing_87 : decode cX1_addCrossing 87 = .ok (.lload 4, 2) := by decide +kernel
theorem dX1_addCrossing_89 : decode cX1_addCrossing 89 = .ok (.lconst 0, 1) := by decide +kernel
theorem dX1_addCrossing_90 : decode cX1_addCrossing 90 = .ok (.lcmp, 1) := by decide +kernel
theorem dX1_addCrossing_91 : decode cX1_addCrossing 91 = .ok (.ifCond .ge 23, 3) := by decide +kernel
theorem dX1_addCrossing_94 : decode cX1_addCrossing 94 = .ok (.aload_n 0, 1) := by decide +kernel
theorem dX1_addCrossing_95 : decode cX1_addCrossing 95 = .ok (.getfield 34, 3) := by decide +kernel
theorem dX1_addCrossing_98 : decode cX1_addCrossing 98 = .ok (.lload 6, 2) := by decide +kernel
theorem dX1_addCrossing_100 : decode cX1_addCrossing 100 = .ok (.lneg, 1) := by decide +kernel
theorem dX1_addCrossing_101 : decode cX1_addCrossing 101 = .ok (.lload 8, 2) := by decide +kernel
theorem dX1_addCrossing_103 : decode cX1_addCrossing 103 = .ok (.lneg, 1) := by decide +kernel
theorem dX1_addCrossing_104 : decode cX1_addCrossing 104 = .ok (.lload 4, 2) := by decide +kernel
theorem dX1_addCrossing_106 : decode cX1_addCrossing 106 = .ok (.lneg, 1) := by decide +kernel
theorem dX1_addCrossing_107 : decode cX1_addCrossing 107 = .ok (.iload_n 3, 1) := by decide +kernel
theorem dX1_addCrossing_108 : decode cX1_addCrossing 108 = .ok (.invokevirtual 120, 3) := by decide +kernel
theorem dX1_addCrossing_111 : decode cX1_addCrossing 111 = .ok (.goto 24, 3) := by decide +kernel
theorem dX1_addCrossing_114 : decode cX1_addCrossing 114 = .ok (.lload 4, 2) := by decide +kernel
theorem dX1_addCrossing_116 : decode cX1_addCrossing 116 = .ok (.lconst 0, 1) := by decide +kernel
theorem dX1_addCrossing_117 : decode cX1_addCrossing 117 = .ok (.lcmp, 1) := by decide +kernel
theorem dX1_addCrossing_118 : decode cX1_addCrossing 118 = .ok (.ifCond .le 17, 3) := by decide +kernel
theorem dX1_addCrossing_121 : decode cX1_addCrossing 121 = .ok (.aload_n 0, 1) := by decide +kernel
theorem dX1_addCrossing_122 : decode cX1_addCrossing 122 = .ok (.getfield 34, 3) := by decide +kernel
theorem dX1_addCrossing_125 : decode cX1_addCrossing 125 = .ok (.lload 6, 2) := by decide +kernel
theorem dX1_addCrossing_127 : decode cX1_addCrossing 127 = .ok (.lload 8, 2) := by decide +kernel
theorem dX1_addCrossing_129 : decode cX1_addCrossing 129 = .ok (.lload 4, 2) := by decide +kernel
theorem dX1_addCrossing_131 : decode cX1_addCrossing 131 = .ok (.iload_n 3, 1) := by decide +kernel
theorem dX1_addCrossing_132 : decode cX1_addCrossing 132 = .ok (.invokevirtual 120, 3) := by decide +kernel
theorem dX1_addCrossing_135 : decode cX1_addCrossing 135 = .ok (.return_, 1) := by decide +kernel
theorem dX2_init_0 : decode cX2_init 0 = .ok (.aload_n 0, 1) := by decide +kernel
theorem dX2_init_1 : decode cX2_init 1 = .ok (.invokespecial 3, 3) := by decide +kernel
theorem dX2_init_4 : decode cX2_init 4 = .ok (.aload_n 0, 1) := by decide +kernel
theorem dX2_init_5 : decode cX2_init 5 = .ok (.aload_n 1, 1) := by decide +kernel
theorem dX2_init_6 : decode cX2_init 6 = .ok (.putfield 9, 3) := by decide +kernel
theorem dX2_init_9 : decode cX2_init 9 = .ok (.aload_n 0, 1) := by decide +kernel
theorem dX2_init_10 : decode cX2_init 10 = .ok (.iconst (-1), 1) := by decide +kernel
theorem dX2_init_11 : decode cX2_init 11 = .ok (.putfield 15, 3) := by decide +kernel
theorem dX2_init_14 : decode cX2_init 14 = .ok (.aload_n 0, 1) := by decide +kernel
theorem dX2_init_15 : decode cX2_init 15 = .ok (.bipush 24, 2) := by decide +kernel
theorem dX2_init_17 : decode cX2_init 17 = .ok (.newarray .int, 2) := by decide +kernel
theorem dX2_init_19 : decode cX2_init 19 = .ok (.putfield 19, 3) := by decide +kernel
theorem dX2_init_22 : decode cX2_init 22 = .ok (.return_, 1) := by decide +kernel
theorem dX2_wrapOnce_0 : decode cX2_wrapOnce 0 = .ok (.aload_n 0, 1) := by decide +kernel
theorem dX2_wrapOnce_1 : decode cX2_wrapOnce 1 = .ok (.getfield 15, 3) := by decide +kernel
theorem dX2_wrapOnce_4 : decode cX2_wrapOnce 4 = .ok (.aload_n 0, 1) := by decide +kernel
theorem dX2_wrapOnce_5 : decode cX2_wrapOnce 5 = .ok (.getfield 9, 3) := by decide +kernel
theorem dX2_wrapOnce_8 : decode cX2_wrapOnce 8 = .ok (.getfield 23, 3) := by decide +kernel
theorem dX2_wrapOnce_11 : decode cX2_wrapOnce 11 = .ok (.if_icmp .ne 4, 3) := by decide +kernel
theorem dX2_wrapOnce_14 : decode cX2_wrapOnce 14 = .ok (.return_, 1) := by decide +kernel
theorem dX2_wrapOnce_15 : decode cX2_wrapOnce 15 = .ok (.aload_n 0, 1) := by decide +kernel
theorem dX2_wrapOnce_16 : decode cX2_wrapOnce 16 = .ok (.aload_n 0, 1) := by decide +kernel
theorem dX2_wrapOnce_17 : decode cX2_wrapOnce 17 = .ok (.getfield 9, 3) := by decide +kernel
theorem dX2_wrapOnce_20 : decode cX2_wrapOnce 20 = .ok (.getfield 23, 3) := by decide +kernel
theorem dX2_wrapOnce_23 : decode cX2_wrapOnce 23 = .ok (.putfield 15, 3) := by decide +kernel
theorem dX2_wrapOnce_26 : decode cX2_wrapOnce 26 = .ok (.aload_n 0, 1) := by decide +kernel
theorem dX2_wrapOnce_27 : decode cX2_wrapOnce 27 = .ok (.iconst 0, 1) := by decide +kernel
theorem dX2_wrapOnce_28 : decode cX2_wrapOnce 28 = .ok (.putfield 28, 3) := by decide +kernel
theorem dX2_wrapOnce_31 : decode cX2_wrapOnce 31 = .ok (.aload_n 0, 1) := by decide +kernel
theorem dX2_wrapOnce_32 : decode cX2_wrapOnce 32 = .ok (.invokevirtual 31, 3) := by decide +kernel
theorem dX2_wrapOnce_35 : decode cX2_wrapOnce 35 = .ok (.istore_n 1, 1) := by decide +kernel
theorem dX2_wrapOnce_36 : decode cX2_wrapOnce 36 = .ok (.iload_n 1, 1) := by decide +kernel
theorem dX2_wrapOnce_37 : decode cX2_wrapOnce 37 = .ok (.istore_n 2, 1) := by decide +kernel
theorem dX2_wrapOnce_38 : decode cX2_wrapOnce 38 = .ok (.iconst 0, 1) := by decide +kernel
theorem dX2_wrapOnce_39 : decode cX2_wrapOnce 39 = .ok (.istore_n 3, 1) := by decide +kernel
theorem dX2_wrapOnce_40 : decode cX2_wrapOnce 40 = .ok (.iload_n 3, 1) := by decide +kernel
theorem dX2_wrapOnce_41 : decode cX2_wrapOnce 41 = .ok (.bipush 24, 2) := by decide +kernel
theorem dX2_wrapOnce_43 : decode cX2_wrapOnce 43 = .ok (.if_icmp .ge 54, 3) := by decide +kernel
theorem dX2_wrapOnce_46 : decode cX2_wrapOnce 46 = .ok (.iload_n 2, 1) := by decide +kernel
theorem dX2_wrapOnce_47 : decode cX2_wrapOnce 47 = .ok (.iconst (-1), 1) := by decide +kernel
theorem dX2_wrapOnce_48 : decode cX2_wrapOnce 48 = .ok (.if_icmp .eq 49, 3) := by decide +kernel
theorem dX2_wrapOnce_51 : decode cX2_wrapOnce 51 = .ok (.aload_n 0, 1) := by decide +kernel
theorem dX2_wrapOnce_52 : decode cX2_wrapOnce 52 = .ok (.getfield 19, 3) := by decide +kernel
theorem dX2_wrapOnce_55 : decode cX2_wrapOnce 55 = .ok (.aload_n 0, 1) := by decide +kernel
theorem dX2_wrapOnce_56 : decode cX2_wrapOnce 56 = .ok (.getfield 28, 3) := by decide +kernel
theorem dX2_wrapOnce_59 : decode cX2_wrapOnce 59 = .ok (.iload_n 2, 1) := by decide +kernel
theorem dX2_wrapOnce_60 : decode cX2_wrapOnce 60 = .ok (.iastore, 1) := by decide +kernel
theorem dX2_wrapOnce_61 : decode cX2_wrapOnce 61 = .ok (.aload_n 0, 1) := by decide +kernel
theorem dX2_wrapOnce_62 : decode cX2_wrapOnce 62 = .ok (.dup, 1) := by decide +kernel
theorem dX2_wrapOnce_63 : decode cX2_wrapOnce 63 = .ok (.getfield 28, 3) := by decide +kernel
theorem dX2_wrapOnce_66 : decode cX2_wrapOnce 66 = .ok (.iconst 1, 1) := by decide +kernel
theorem dX2_wrapOnce_67 : decode cX2_wrapOnce 67 = .ok (.iadd, 1) := by decide +kernel
theorem dX2_wrapOnce_68 : decode cX2_wrapOnce 68 = .ok (.putfield 28, 3) := by decide +kernel
theorem dX2_wrapOnce_71 : decode cX2_wrapOnce 71 = .ok (.aload_n 0, 1) := by decide +kernel
theorem dX2_wrapOnce_72 : decode cX2_wrapOnce 72 = .ok (.iload_n 2, 1) := by decide +kernel
theorem dX2_wrapOnce_73 : decode cX2_wrapOnce 73 = .ok (.invokevirtual 35, 3) := by decide +kernel
theorem dX2_wrapOnce_76 : decode cX2_wrapOnce 76 = .ok (.istore 4, 2) := by decide +kernel
theorem dX2_wrapOnce_78 : decode cX2_wrapOnce 78 = .ok (.iload 4, 2) := by decide +kernel
theorem dX2_wrapOnce_80 : decode cX2_wrapOnce 80 = .ok (.iload_n 1, 1) := by decide +kernel
theorem dX2_wrapOnce_81 : decode cX2_wrapOnce 81 = .ok (.if_icmp .ne 7, 3) := by decide +kernel
theorem dX2_wrapOnce_84 : decode cX2_wrapOnce 84 = .ok (.iconst (-1), 1) := by decide +kernel
theorem dX2_wrapOnce_85 : decode cX2_wrapOnce 85 = .ok (.goto 5, 3) := by decide +kernel
theorem dX2_wrapOnce_88 : decode cX2_wrapOnce 88 = .ok (.iload 4, 2) := by decide +kernel
theorem dX2_wrapOnce_90 : decode cX2_wrapOnce 90 = .ok (.istore_n 2, 1) := by decide +kernel
theorem dX2_wrapOnce_91 : decode cX2_wrapOnce 91 = .ok (.iinc 3 1, 3) := by decide +kernel
theorem dX2_wrapOnce_94 : decode cX2_wrapOnce 94 = .ok (.goto (-54), 3) := by decide +kernel
theorem dX2_wrapOnce_97 : decode cX2_wrapOnce 97 = .ok (.return_, 1) := by decide +kernel
theorem dX2_leastPlace_0 : decode cX2_leastPlace 0 = .ok (.iconst (-1), 1) := by decide +kernel
theorem dX2_leastPlace_1 : decode cX2_leastPlace 1 = .ok (.istore_n 1, 1) := by decide +kernel
theorem dX2_leastPlace_2 : decode cX2_leastPlace 2 = .ok (.iconst 0, 1) := by decide +kernel
theorem dX2_leastPlace_3 : decode cX2_leastPlace 3 = .ok (.istore_n 2, 1) := by decide +kernel
theorem dX2_leastPlace_4 : decode cX2_leastPlace 4 = .ok (.iload_n 2, 1) := by decide +kernel
theorem dX2_leastPlace_5 : decode cX2_leastPlace 5 = .ok (.aload_n 0, 1) := by decide +kernel
theorem dX2_leastPlace_6 : decode cX2_leastPlace 6 = .ok (.getfield 9, 3) := by decide +kernel
theorem dX2_leastPlace_9 : decode cX2_leastPlace 9 = .ok (.getfield 39, 3) := by decide +kernel
theorem dX2_leastPlace_12 : decode cX2_leastPlace 12 = .ok (.if_icmp .ge 89, 3) := by decide +kernel
theorem dX2_leastPlace_15 : decode cX2_leastPlace 15 = .ok (.aload_n 0, 1) := by decide +kernel
theorem dX2_leastPlace_16 : decode cX2_leastPlace 16 = .ok (.getfield 9, 3) := by decide +kernel
theorem dX2_leastPlace_19 : decode cX2_leastPlace 19 = .ok (.getfield 40, 3) := by decide +kernel
theorem dX2_leastPlace_22 : decode cX2_leastPlace 22 = .ok (.iload_n 2, 1) := by decide +kernel
theorem dX2_leastPlace_23 : decode cX2_leastPlace 23 = .ok (.iaload, 1) := by decide +kernel
theorem dX2_leastPlace_24 : decode cX2_leastPlace 24 = .ok (.istore_n 3, 1) := by decide +kernel
theorem dX2_leastPlace_25 : decode cX2_leastPlace 25 = .ok (.iload_n 1, 1) := by decide +kernel
theorem dX2_leastPlace_26 : decode cX2_leastPlace 26 = .ok (.iconst (-1), 1) := by decide +kernel
theorem dX2_leastPlace_27 : decode cX2_leastPlace 27 = .ok (.if_icmp .eq 66, 3) := by decide +kernel
theorem dX2_leastPlace_30 : decode cX2_leastPlace 30 = .ok (.aload_n 0, 1) := by decide +kernel
theorem dX2_leastPlace_31 : decode cX2_leastPlace 31 = .ok (.getfield 9, 3) := by decide +kernel
theorem dX2_leastPlace_34 : decode cX2_leastPlace 34 = .ok (.getfield 43, 3) := by decide +kernel
theorem dX2_leastPlace_37 : decode cX2_leastPlace 37 = .ok (.iload_n 3, 1) := by decide +kernel
theorem dX2_leastPlace_38 : decode cX2_leastPlace 38 = .ok (.iaload, 1) := by decide +kernel
theorem dX2_leastPlace_39 : decode cX2_leastPlace 39 = .ok (.aload_n 0, 1) := by decide +kernel
theorem dX2_leastPlace_40 : decode cX2_leastPlace 40 = .ok (.getfield 9, 3) := by decide +kernel
theorem dX2_leastPlace_43 : decode cX2_leastPlace 43 = .ok (.getfield 43, 3) := by decide +kernel
theorem dX2_leastPlace_46 : decode cX2_leastPlace 46 = .ok (.iload_n 1, 1) := by decide +kernel
theorem dX2_leastPlace_47 : decode cX2_leastPlace 47 = .ok (.iaload, 1) := by decide +kernel
theorem dX2_leastPlace_48 : decode cX2_leastPlace 48 = .ok (.if_icmp .lt 45, 3) := by decide +kernel
theorem dX2_leastPlace_51 : decode cX2_leastPlace 51 = .ok (.aload_n 0, 1) := by decide +kernel
theorem dX2_leastPlace_52 : decode cX2_leastPlace 52 = .ok (.getfield 9, 3) := by decide +kernel
theorem dX2_leastPlace_55 : decode cX2_leastPlace 55 = .ok (.getfield 43, 3) := by decide +kernel
theorem dX2_leastPlace_58 : decode cX2_leastPlace 58 = .ok (.iload_n 3, 1) := by decide +kernel
theorem dX2_leastPlace_59 : decode cX2_leastPlace 59 = .ok (.iaload, 1) := by decide +kernel
theorem dX2_leastPlace_60 : decode cX2_leastPlace 60 = .ok (.aload_n 0, 1) := by decide +kernel
theorem dX2_leastPlace_61 : decode cX2_leastPlace 61 = .ok (.getfield 9, 3) := by decide +kernel
theorem dX2_leastPlace_64 : decode cX2_leastPlace 64 = .ok (.getfield 43, 3) := by decide +kernel
theorem dX2_leastPlace_67 : decode cX2_leastPlace 67 = .ok (.iload_n 1, 1) := by decide +kernel
theorem dX2_leastPlace_68 : decode cX2_leastPlace 68 = .ok (.iaload, 1) := by decide +kernel
theorem dX2_leastPlace_69 : decode cX2_leastPlace 69 = .ok (.if_icmp .ne 26, 3) := by decide +kernel
theorem dX2_leastPlace_72 : decode cX2_leastPlace 72 = .ok (.aload_n 0, 1) := by decide +kernel
theorem dX2_leastPlace_73 : decode cX2_leastPlace 73 = .ok (.getfield 9, 3) := by decide +kernel
theorem dX2_leastPlace_76 : decode cX2_leastPlace 76 = .ok (.getfield 46, 3) := by decide +kernel
theorem dX2_leastPlace_79 : decode cX2_leastPlace 79 = .ok (.iload_n 3, 1) := by decide +kernel
theorem dX2_leastPlace_80 : decode cX2_leastPlace 80 = .ok (.iaload, 1) := by decide +kernel
theorem dX2_leastPlace_81 : decode cX2_leastPlace 81 = .ok (.aload_n 0, 1) := by decide +kernel
theorem dX2_leastPlace_82 : decode cX2_leastPlace 82 = .ok (.getfield 9, 3) := by decide +kernel
theorem dX2_leastPlace_85 : decode cX2_leastPlace 85 = .ok (.getfield 46, 3) := by decide +kernel
theorem dX2_leastPlace_88 : decode cX2_leastPlace 88 = .ok (.iload_n 1, 1) := by decide +kernel
theorem dX2_leastPlace_89 : decode cX2_leastPlace 89 = .ok (.iaload, 1) := by decide +kernel
theorem dX2_leastPlace_90 : decode cX2_leastPlace 90 = .ok (.if_icmp .ge 5, 3) := by decide +kernel
theorem dX2_leastPlace_93 : decode cX2_leastPlace 93 = .ok (.iload_n 3, 1) := by decide +kernel
theorem dX2_leastPlace_94 : decode cX2_leastPlace 94 = .ok (.istore_n 1, 1) := by decide +kernel
theorem dX2_leastPlace_95 : decode cX2_leastPlace 95 = .ok (.iinc 2 1, 3) := by decide +kernel
theorem dX2_leastPlace_98 : decode cX2_leastPlace 98 = .ok (.goto (-94), 3) := by decide +kernel
theorem dX2_leastPlace_101 : decode cX2_leastPlace 101 = .ok (.iload_n 1, 1) := by decide +kernel
theorem dX2_leastPlace_102 : decode cX2_leastPlace 102 = .ok (.ireturn, 1) := by decide +kernel
theorem dX2_rightmostFrom_0 : decode cX2_rightmostFrom 0 = .ok (.iconst (-1), 1) := by decide +kernel
theorem dX2_rightmostFrom_1 : decode cX2_rightmostFrom 1 = .ok (.istore_n 2, 1) := by decide +kernel
theorem dX2_rightmostFrom_2 : decode cX2_rightmostFrom 2 = .ok (.iconst 0, 1) := by decide +kernel
theorem dX2_rightmostFrom_3 : decode cX2_rightmostFrom 3 = .ok (.istore_n 3, 1) := by decide +kernel
theorem dX2_rightmostFrom_4 : decode cX2_rightmostFrom 4 = .ok (.iload_n 3, 1) := by decide +kernel
theorem dX2_rightmostFrom_5 : decode cX2_rightmostFrom 5 = .ok (.aload_n 0, 1) := by decide +kernel
theorem dX2_rightmostFrom_6 : decode cX2_rightmostFrom 6 = .ok (.getfield 9, 3) := by decide +kernel
theorem dX2_rightmostFrom_9 : decode cX2_rightmostFrom 9 = .ok (.getfield 39, 3) := by decide +kernel
theorem dX2_rightmostFrom_12 : decode cX2_rightmostFrom 12 = .ok (.if_icmp .ge 45, 3) := by decide +kernel
theorem dX2_rightmostFrom_15 : decode cX2_rightmostFrom 15 = .ok (.aload_n 0, 1) := by decide +kernel
theorem dX2_rightmostFrom_16 : decode cX2_rightmostFrom 16 = .ok (.getfield 9, 3) := by decide +kernel
theorem dX2_rightmostFrom_19 : decode cX2_rightmostFrom 19 = .ok (.getfield 40, 3) := by decide +kernel
theorem dX2_rightmostFrom_22 : decode cX2_rightmostFrom 22 = .ok (.iload_n 3, 1) := by decide +kernel
theorem dX2_rightmostFrom_23 : decode cX2_rightmostFrom 23 = .ok (.iaload, 1) := by decide +kernel
theorem dX2_rightmostFrom_24 : decode cX2_rightmostFrom 24 = .ok (.istore 4, 2) := by decide +kernel
theorem dX2_rightmostFrom_26 : decode cX2_rightmostFrom 26 = .ok (.iload 4, 2) := by decide +kernel
theorem dX2_rightmostFrom_28 : decode cX2_rightmostFrom 28 = .ok (.iload_n 1, 1) := by decide +kernel
theorem dX2_rightmostFrom_29 : decode cX2_rightmostFrom 29 = .ok (.if_icmp .eq 22, 3) := by decide +kernel
theorem dX2_rightmostFrom_32 : decode cX2_rightmostFrom 32 = .ok (.iload_n 2, 1) := by decide +kernel
theorem dX2_rightmostFrom_33 : decode cX2_rightmostFrom 33 = .ok (.iconst (-1), 1) := by decide +kernel
theorem dX2_rightmostFrom_34 : decode cX2_rightmostFrom 34 = .ok (.if_icmp .eq 14, 3) := by decide +kernel
theorem dX2_rightmostFrom_37 : decode cX2_rightmostFrom 37 = .ok (.aload_n 0, 1) := by decide +kernel
theorem dX2_rightmostFrom_38 : decode cX2_rightmostFrom 38 = .ok (.iload_n 1, 1) := by decide +kernel
theorem dX2_rightmostFrom_39 : decode cX2_rightmostFrom 39 = .ok (.iload_n 2, 1) := by decide +kernel
theorem dX2_rightmostFrom_40 : decode cX2_rightmostFrom 40 = .ok (.iload 4, 2) := by decide +kernel
theorem dX2_rightmostFrom_42 : decode cX2_rightmostFrom 42 = .ok (.invokevirtual 49, 3) := by decide +kernel
theorem dX2_rightmostFrom_45 : decode cX2_rightmostFrom 45 = .ok (.ifCond .eq 6, 3) := by decide +kernel
theorem dX2_rightmostFrom_48 : decode cX2_rightmostFrom 48 = .ok (.iload 4, 2) := by decide +kernel
theorem dX2_rightmostFrom_50 : decode cX2_rightmostFrom 50 = .ok (.istore_n 2, 1) := by decide +kernel
theorem dX2_rightmostFrom_51 : decode cX2_rightmostFrom 51 = .ok (.iinc 3 1, 3) := by decide +kernel
theorem dX2_rightmostFrom_54 : decode cX2_rightmostFrom 54 = .ok (.goto (-50), 3) := by decide +kernel
theorem dX2_rightmostFrom_57 : decode cX2_rightmostFrom 57 = .ok (.iload_n 2, 1) := by decide +kernel
theorem dX2_rightmostFrom_58 : decode cX2_rightmostFrom 58 = .ok (.ireturn, 1) := by decide +kernel
theorem dX2_isFartherRight_0 : decode cX2_isFartherRight 0 = .ok (.aload_n 0, 1) := by decide +kernel
theorem dX2_isFartherRight_1 : decode cX2_isFartherRight 1 = .ok (.getfield 9, 3) := by decide +kernel
theorem dX2_isFartherRight_4 : decode cX2_isFartherRight 4 = .ok (.iload_n 1, 1) := by decide +kernel
theorem dX2_isFartherRight_5 : decode cX2_isFartherRight 5 = .ok (.iload_n 2, 1) := by decide +kernel
theorem dX2_isFartherRight_6 : decode cX2_isFartherRight 6 = .ok (.iload_n 3, 1) := by decide +kernel
theorem dX2_isFartherRight_7 : decode cX2_isFartherRight 7 = .ok (.invokevirtual 53, 3) := by decide +kernel
theorem dX2_isFartherRight_10 : decode cX2_isFartherRight 10 = .ok (.istore 4, 2) := by decide +kernel
theorem dX2_isFartherRight_12 : decode cX2_isFartherRight 12 = .ok (.iload 4, 2) := by decide +kernel
theorem dX2_isFartherRight_14 : decode cX2_isFartherRight 14 = .ok (.ifCond .lt 29, 3) := by decide +kernel
theorem dX2_isFartherRight_17 : decode cX2_isFartherRight 17 = .ok (.iload 4, 2) := by decide +kernel
theorem dX2_isFartherRight_19 : decode cX2_isFartherRight 19 = .ok (.ifCond .ne 28, 3) := by decide +kernel
theorem dX2_isFartherRight_22 : decode cX2_isFartherRight 22 = .ok (.aload_n 0, 1) := by decide +kernel
theorem dX2_isFartherRight_23 : decode cX2_isFartherRight 23 = .ok (.getfield 9, 3) := by decide +kernel
theorem dX2_isFartherRight_26 : decode cX2_isFartherRight 26 = .ok (.iload_n 1, 1) := by decide +kernel
theorem dX2_isFartherRight_27 : decode cX2_isFartherRight 27 = .ok (.iload_n 3, 1) := by decide +kernel
theorem dX2_isFartherRight_28 : decode cX2_isFartherRight 28 = .ok (.invokevirtual 57, 3) := by decide +kernel
theorem dX2_isFartherRight_31 : decode cX2_isFartherRight 31 = .ok (.aload_n 0, 1) := by decide +kernel
theorem dX2_isFartherRight_32 : decode cX2_isFartherRight 32 = .ok (.getfield 9, 3) := by decide +kernel
theorem dX2_isFartherRight_35 : decode cX2_isFartherRight 35 = .ok (.iload_n 1, 1) := by decide +kernel
theorem dX2_isFartherRight_36 : decode cX2_isFartherRight 36 = .ok (.iload_n 2, 1) := by decide +kernel
theorem dX2_isFartherRight_37 : decode cX2_isFartherRight 37 = .ok (.invokevirtual 57, 3) := by decide +kernel
theorem dX2_isFartherRight_40 : decode cX2_isFartherRight 40 = .ok (.if_icmp .le 7, 3) := by decide +kernel
theorem dX2_isFartherRight_43 : decode cX2_isFartherRight 43 = .ok (.iconst 1, 1) := by decide +kernel
theorem dX2_isFartherRight_44 : decode cX2_isFartherRight 44 = .ok (.goto 4, 3) := by decide +kernel
theorem dX2_isFartherRight_47 : decode cX2_isFartherRight 47 = .ok (.iconst 0, 1) := by decide +kernel
theorem dX2_isFartherRight_48 : decode cX2_isFartherRight 48 = .ok (.ireturn, 1) := by decide +kernel
theorem dX3_init_0 : decode cX3_init 0 = .ok (.aload_n 0, 1) := by decide +kernel
theorem dX3_init_1 : decode cX3_init 1 = .ok (.invokespecial 3, 3) := by decide +kernel
theorem dX3_init_4 : decode cX3_init 4 = .ok (.aload_n 0, 1) := by decide +kernel
theorem dX3_init_5 : decode cX3_init 5 = .ok (.aload_n 1, 1) := by decide +kernel
theorem dX3_init_6 : decode cX3_init 6 = .ok (.putfield 9, 3) := by decide +kernel
theorem dX3_init_9 : decode cX3_init 9 = .ok (.aload_n 0, 1) := by decide +kernel
theorem dX3_init_10 : decode cX3_init 10 = .ok (.iconst (-1), 1) := by decide +kernel
theorem dX3_init_11 : decode cX3_init 11 = .ok (.putfield 15, 3) := by decide +kernel
theorem dX3_init_14 : decode cX3_init 14 = .ok (.aload_n 0, 1) := by decide +kernel
theorem dX3_init_15 : decode cX3_init 15 = .ok (.bipush 24, 2) := by decide +kernel
theorem dX3_init_17 : decode cX3_init 17 = .ok (.newarray .long, 2) := by decide +kernel
theorem dX3_init_19 : decode cX3_init 19 = .ok (.putfield 19, 3) := by decide +kernel
theorem dX3_init_22 : decode cX3_init 22 = .ok (.aload_n 0, 1) := by decide +kernel
theorem dX3_init_23 : decode cX3_init 23 = .ok (.bipush 24, 2) := by decide +kernel
theorem dX3_init_25 : decode cX3_init 25 = .ok (.newarray .long, 2) := by decide +kernel
theorem dX3_init_27 : decode cX3_init 27 = .ok (.putfield 23, 3) := by decide +kernel
theorem dX3_init_30 : decode cX3_init 30 = .ok (.return_, 1) := by decide +kernel
theorem dX3_joinOnce_0 : decode cX3_joinOnce 0 = .ok (.aload_n 0, 1) := by decide +kernel
theorem dX3_joinOnce_1 : decode cX3_joinOnce 1 = .ok (.getfield 15, 3) := by decide +kernel
theorem dX3_joinOnce_4 : decode cX3_joinOnce 4 = .ok (.aload_n 0, 1) := by decide +kernel
theorem dX3_joinOnce_5 : decode cX3_joinOnce 5 = .ok (.getfield 9, 3) := by decide +kernel
theorem dX3_joinOnce_8 : decode cX3_joinOnce 8 = .ok (.getfield 26, 3) := by decide +kernel
theorem dX3_joinOnce_11 : decode cX3_joinOnce 11 = .ok (.if_icmp .ne 4, 3) := by decide +kernel
theorem dX3_joinOnce_14 : decode cX3_joinOnce 14 = .ok (.return_, 1) := by decide +kernel
theorem dX3_joinOnce_15 : decode cX3_joinOnce 15 = .ok (.aload_n 0, 1) := by decide +kernel
theorem dX3_joinOnce_16 : decode cX3_joinOnce 16 = .ok (.aload_n 0, 1) := by decide +kernel
theorem dX3_joinOnce_17 : decode cX3_joinOnce 17 = .ok (.getfield 9, 3) := by decide +kernel
theorem dX3_joinOnce_20 : decode cX3_joinOnce 20 = .ok (.getfield 26, 3) := by decide +kernel
theorem dX3_joinOnce_23 : decode cX3_joinOnce 23 = .ok (.putfield 15, 3) := by decide +kernel
theorem dX3_joinOnce_26 : decode cX3_joinOnce 26 = .ok (.aload_n 0, 1) := by decide +kernel
theorem dX3_joinOnce_27 : decode cX3_joinOnce 27 = .ok (.iconst 0, 1) := by decide +kernel
theorem dX3_joinOnce_28 : decode cX3_joinOnce 28 = .ok (.putfield 31, 3) := by decide +kernel
theorem dX3_joinOnce_31 : decode cX3_joinOnce 31 = .ok (.aload_n 0, 1) := by decide +kernel
theorem dX3_joinOnce_32 : decode cX3_joinOnce 32 = .ok (.getfield 23, 3) := by decide +kernel
theorem dX3_joinOnce_35 : decode cX3_joinOnce 35 = .ok (.ldc2_w 34, 3) := by decide +kernel
theorem dX3_joinOnce_38 : decode cX3_joinOnce 38 = .ok (.invokestatic 36, 3) := by decide +kernel
theorem dX3_joinOnce_41 : decode cX3_joinOnce 41 = .ok (.iconst 0, 1) := by decide +kernel
theorem dX3_joinOnce_42 : decode cX3_joinOnce 42 = .ok (.istore_n 1, 1) := by decide +kernel
theorem dX3_joinOnce_43 : decode cX3_joinOnce 43 = .ok (.iconst 1, 1) := by decide +kernel
theorem dX3_joinOnce_44 : decode cX3_joinOnce 44 = .ok (.istore_n 2, 1) := by decide +kernel
theorem dX3_joinOnce_45 : decode cX3_joinOnce 45 = .ok (.iload_n 2, 1) := by decide +kernel
theorem dX3_joinOnce_46 : decode cX3_joinOnce 46 = .ok (.aload_n 0, 1) := by decide +kernel
theorem dX3_joinOnce_47 : decode cX3_joinOnce 47 = .ok (.getfield 9, 3) := by decide +kernel
theorem dX3_joinOnce_50 : decode cX3_joinOnce 50 = .ok (.getfield 42, 3) := by decide +kernel
theorem dX3_joinOnce_53 : decode cX3_joinOnce 53 = .ok (.if_icmp .ge 38, 3) := by decide +kernel
theorem dX3_joinOnce_56 : decode cX3_joinOnce 56 = .ok (.aload_n 0, 1) := by decide +kernel
theorem dX3_joinOnce_57 : decode cX3_joinOnce 57 = .ok (.getfield 23, 3) := by decide +kernel
theorem dX3_joinOnce_60 : decode cX3_joinOnce 60 = .ok (.iload_n 1, 1) := by decide +kernel
theorem dX3_joinOnce_61 : decode cX3_joinOnce 61 = .ok (.ldc2_w 43, 3) := by decide +kernel
theorem dX3_joinOnce_64 : decode cX3_joinOnce 64 = .ok (.lastore, 1) := by decide +kernel
theorem dX3_joinOnce_65 : decode cX3_joinOnce 65 = .ok (.aload_n 0, 1) := by decide +kernel
theorem dX3_joinOnce_66 : decode cX3_joinOnce 66 = .ok (.iload_n 1, 1) := by decide +kernel
theorem dX3_joinOnce_67 : decode cX3_joinOnce 67 = .ok (.invokevirtual 45, 3) := by decide +kernel
theorem dX3_joinOnce_70 : decode cX3_joinOnce 70 = .ok (.aload_n 0, 1) := by decide +kernel
theorem dX3_joinOnce_71 : decode cX3_joinOnce 71 = .ok (.invokevirtual 49, 3) := by decide +kernel
theorem dX3_joinOnce_74 : decode cX3_joinOnce 74 = .ok (.istore_n 1, 1) := by decide +kernel
theorem dX3_joinOnce_75 : decode cX3_joinOnce 75 = .ok (.aload_n 0, 1) := by decide +kernel
theorem dX3_joinOnce_76 : decode cX3_joinOnce 76 = .ok (.aload_n 0, 1) := by decide +kernel
theorem dX3_joinOnce_77 : decode cX3_joinOnce 77 = .ok (.getfield 23, 3) := by decide +kernel
theorem dX3_joinOnce_80 : decode cX3_joinOnce 80 = .ok (.iload_n 1, 1) := by decide +kernel
theorem dX3_joinOnce_81 : decode cX3_joinOnce 81 = .ok (.laload, 1) := by decide +kernel
theorem dX3_joinOnce_82 : decode cX3_joinOnce 82 = .ok (.invokevirtual 53, 3) := by decide +kernel
theorem dX3_joinOnce_85 : decode cX3_joinOnce 85 = .ok (.iinc 2 1, 3) := by decide +kernel
theorem dX3_joinOnce_88 : decode cX3_joinOnce 88 = .ok (.goto (-43), 3) := by decide +kernel
theorem dX3_joinOnce_91 : decode cX3_joinOnce 91 = .ok (.return_, 1) := by decide +kernel
theorem dX3_tell_0 : decode cX3_tell 0 = .ok (.iload_n 1, 1) := by decide +kernel
theorem dX3_tell_1 : decode cX3_tell 1 = .ok (.ifCond .lt 11, 3) := by decide +kernel
theorem dX3_tell_4 : decode cX3_tell 4 = .ok (.iload_n 1, 1) := by decide +kernel
theorem dX3_tell_5 : decode cX3_tell 5 = .ok (.aload_n 0, 1) := by decide +kernel
theorem dX3_tell_6 : decode cX3_tell 6 = .ok (.getfield 31, 3) := by decide +kernel
theorem dX3_tell_9 : decode cX3_tell 9 = .ok (.if_icmp .lt 5, 3) := by decide +kernel
theorem dX3_tell_12 : decode cX3_tell 12 = .ok (.iconst (-1), 1) := by decide +kernel
theorem dX3_tell_13 : decode cX3_tell 13 = .ok (.ireturn, 1) := by decide +kernel
theorem dX3_tell_14 : decode cX3_tell 14 = .ok (.iload_n 2, 1) := by decide +kernel
theorem dX3_tell_15 : decode cX3_tell 15 = .ok (.tableswitch 62 0 2 #[25, 39, 51], 25) := by decide +kernel
theorem dX3_tell_40 : decode cX3_tell 40 = .ok (.aload_n 0, 1) := by decide +kernel
theorem dX3_tell_41 : decode cX3_tell 41 = .ok (.getfield 19, 3) := by decide +kernel
theorem dX3_tell_44 : decode cX3_tell 44 = .ok (.iload_n 1, 1) := by decide +kernel
theorem dX3_tell_45 : decode cX3_tell 45 = .ok (.laload, 1) := by decide +kernel
theorem dX3_tell_46 : decode cX3_tell 46 = .ok (.iconst 5, 1) := by decide +kernel
theorem dX3_tell_47 : decode cX3_tell 47 = .ok (.lshr, 1) := by decide +kernel
theorem dX3_tell_48 : decode cX3_tell 48 = .ok (.ldc2_w 57, 3) := by decide +kernel
theorem dX3_tell_51 : decode cX3_tell 51 = .ok (.land, 1) := by decide +kernel
theorem dX3_tell_52 : decode cX3_tell 52 = .ok (.l2i, 1) := by decide +kernel
theorem dX3_tell_53 : decode cX3_tell 53 = .ok (.ireturn, 1) := by decide +kernel
theorem dX3_tell_54 : decode cX3_tell 54 = .ok (.aload_n 0, 1) := by decide +kernel
theorem dX3_tell_55 : decode cX3_tell 55 = .ok (.getfield 19, 3) := by decide +kernel
theorem dX3_tell_58 : decode cX3_tell 58 = .ok (.iload_n 1, 1) := by decide +kernel
theorem dX3_tell_59 : decode cX3_tell 59 = .ok (.laload, 1) := by decide +kernel
theorem dX3_tell_60 : decode cX3_tell 60 = .ok (.ldc2_w 57, 3) := by decide +kernel
theorem dX3_tell_63 : decode cX3_tell 63 = .ok (.land, 1) := by decide +kernel
theorem dX3_tell_64 : decode cX3_tell 64 = .ok (.l2i, 1) := by decide +kernel
theorem dX3_tell_65 : decode cX3_tell 65 = .ok (.ireturn, 1) := by decide +kernel
theorem dX3_tell_66 : decode cX3_tell 66 = .ok (.aload_n 0, 1) := by decide +kernel
theorem dX3_tell_67 : decode cX3_tell 67 = .ok (.getfield 19, 3) := by decide +kernel
theorem dX3_tell_70 : decode cX3_tell 70 = .ok (.iload_n 1, 1) := by decide +kernel
theorem dX3_tell_71 : decode cX3_tell 71 = .ok (.laload, 1) := by decide +kernel
theorem dX3_tell_72 : decode cX3_tell 72 = .ok (.bipush 10, 2) := by decide +kernel
theorem dX3_tell_74 : decode cX3_tell 74 = .ok (.lshr, 1) := by decide +kernel
theorem dX3_tell_75 : decode cX3_tell 75 = .ok (.l2i, 1) := by decide +kernel
theorem dX3_tell_76 : decode cX3_tell 76 = .ok (.ireturn, 1) := by decide +kernel
theorem dX3_tell_77 : decode cX3_tell 77 = .ok (.iconst (-1), 1) := by decide +kernel
theorem dX3_tell_78 : decode cX3_tell 78 = .ok (.ireturn, 1) := by decide +kernel
theorem dX3_reachFrom_0 : decode cX3_reachFrom 0 = .ok (.iconst 0, 1) := by decide +kernel
theorem dX3_reachFrom_1 : decode cX3_reachFrom 1 = .ok (.istore_n 2, 1) := by decide +kernel
theorem dX3_reachFrom_2 : decode cX3_reachFrom 2 = .ok (.iload_n 2, 1) := by decide +kernel
theorem dX3_reachFrom_3 : decode cX3_reachFrom 3 = .ok (.aload_n 0, 1) := by decide +kernel
theorem dX3_reachFrom_4 : decode cX3_reachFrom 4 = .ok (.getfield 9, 3) := by decide +kernel
theorem dX3_reachFrom_7 : decode cX3_reachFrom 7 = .ok (.getfield 42, 3) := by decide +kernel
theorem dX3_reachFrom_10 : decode cX3_reachFrom 10 = .ok (.if_icmp .ge 59, 3) := by decide +kernel
theorem dX3_reachFrom_13 : decode cX3_reachFrom 13 = .ok (.aload_n 0, 1) := by decide +kernel
theorem dX3_reachFrom_14 : decode cX3_reachFrom 14 = .ok (.getfield 23, 3) := by decide +kernel
theorem dX3_reachFrom_17 : decode cX3_reachFrom 17 = .ok (.iload_n 2, 1) := by decide +kernel
theorem dX3_reachFrom_18 : decode cX3_reachFrom 18 = .ok (.laload, 1) := by decide +kernel
theorem dX3_reachFrom_19 : decode cX3_reachFrom 19 = .ok (.ldc2_w 43, 3) := by decide +kernel
theorem dX3_reachFrom_22 : decode cX3_reachFrom 22 = .ok (.lcmp, 1) := by decide +kernel
theorem dX3_reachFrom_23 : decode cX3_reachFrom 23 = .ok (.ifCond .eq 40, 3) := by decide +kernel
theorem dX3_reachFrom_26 : decode cX3_reachFrom 26 = .ok (.aload_n 0, 1) := by decide +kernel
theorem dX3_reachFrom_27 : decode cX3_reachFrom 27 = .ok (.getfield 23, 3) := by decide +kernel
theorem dX3_reachFrom_30 : decode cX3_reachFrom 30 = .ok (.iload_n 2, 1) := by decide +kernel
theorem dX3_reachFrom_31 : decode cX3_reachFrom 31 = .ok (.aload_n 0, 1) := by decide +kernel
theorem dX3_reachFrom_32 : decode cX3_reachFrom 32 = .ok (.getfield 23, 3) := by decide +kernel
theorem dX3_reachFrom_35 : decode cX3_reachFrom 35 = .ok (.iload_n 2, 1) := by decide +kernel
theorem dX3_reachFrom_36 : decode cX3_reachFrom 36 = .ok (.laload, 1) := by decide +kernel
theorem dX3_reachFrom_37 : decode cX3_reachFrom 37 = .ok (.aload_n 0, 1) := by decide +kernel
theorem dX3_reachFrom_38 : decode cX3_reachFrom 38 = .ok (.aload_n 0, 1) := by decide +kernel
theorem dX3_reachFrom_39 : decode cX3_reachFrom 39 = .ok (.getfield 9, 3) := by decide +kernel
theorem dX3_reachFrom_42 : decode cX3_reachFrom 42 = .ok (.getfield 59, 3) := by decide +kernel
theorem dX3_reachFrom_45 : decode cX3_reachFrom 45 = .ok (.iload_n 1, 1) := by decide +kernel
theorem dX3_reachFrom_46 : decode cX3_reachFrom 46 = .ok (.iaload, 1) := by decide +kernel
theorem dX3_reachFrom_47 : decode cX3_reachFrom 47 = .ok (.aload_n 0, 1) := by decide +kernel
theorem dX3_reachFrom_48 : decode cX3_reachFrom 48 = .ok (.getfield 9, 3) := by decide +kernel
theorem dX3_reachFrom_51 : decode cX3_reachFrom 51 = .ok (.getfield 59, 3) := by decide +kernel
theorem dX3_reachFrom_54 : decode cX3_reachFrom 54 = .ok (.iload_n 2, 1) := by decide +kernel
theorem dX3_reachFrom_55 : decode cX3_reachFrom 55 = .ok (.iaload, 1) := by decide +kernel
theorem dX3_reachFrom_56 : decode cX3_reachFrom 56 = .ok (.invokevirtual 63, 3) := by decide +kernel
theorem dX3_reachFrom_59 : decode cX3_reachFrom 59 = .ok (.invokestatic 67, 3) := by decide +kernel
theorem dX3_reachFrom_62 : decode cX3_reachFrom 62 = .ok (.lastore, 1) := by decide +kernel
theorem dX3_reachFrom_63 : decode cX3_reachFrom 63 = .ok (.iinc 2 1, 3) := by decide +kernel
theorem dX3_reachFrom_66 : decode cX3_reachFrom 66 = .ok (.goto (-64), 3) := by decide +kernel
theorem dX3_reachFrom_69 : decode cX3_reachFrom 69 = .ok (.return_, 1) := by decide +kernel
theorem dX3_pipeBetween_0 : decode cX3_pipeBetween 0 = .ok (.aload_n 0, 1) := by decide +kernel
theorem dX3_pipeBetween_1 : decode cX3_pipeBetween 1 = .ok (.getfield 9, 3) := by decide +kernel
theorem dX3_pipeBetween_4 : decode cX3_pipeBetween 4 = .ok (.iload_n 1, 1) := by decide +kernel
theorem dX3_pipeBetween_5 : decode cX3_pipeBetween 5 = .ok (.iload_n 2, 1) := by decide +kernel
theorem dX3_pipeBetween_6 : decode cX3_pipeBetween 6 = .ok (.invokevirtual 73, 3) := by decide +kernel
theorem dX3_pipeBetween_9 : decode cX3_pipeBetween 9 = .ok (.i2l, 1) := by decide +kernel
theorem dX3_pipeBetween_10 : decode cX3_pipeBetween 10 = .ok (.bipush 10, 2) := by decide +kernel
theorem dX3_pipeBetween_12 : decode cX3_pipeBetween 12 = .ok (.lshl, 1) := by decide +kernel
theorem dX3_pipeBetween_13 : decode cX3_pipeBetween 13 = .ok (.iload_n 1, 1) := by decide +kernel
theorem dX3_pipeBetween_14 : decode cX3_pipeBetween 14 = .ok (.iload_n 2, 1) := by decide +kernel
theorem dX3_pipeBetween_15 : decode cX3_pipeBetween 15 = .ok (.invokestatic 77, 3) := by decide +kernel
theorem dX3_pipeBetween_18 : decode cX3_pipeBetween 18 = .ok (.iconst 5, 1) := by decide +kernel
theorem dX3_pipeBetween_19 : decode cX3_pipeBetween 19 = .ok (.ishl, 1) := by decide +kernel
theorem dX3_pipeBetween_20 : decode cX3_pipeBetween 20 = .ok (.i2l, 1) := by decide +kernel
theorem dX3_pipeBetween_21 : decode cX3_pipeBetween 21 = .ok (.lor, 1) := by decide +kernel
theorem dX3_pipeBetween_22 : decode cX3_pipeBetween 22 = .ok (.iload_n 1, 1) := by decide +kernel
theorem dX3_pipeBetween_23 : decode cX3_pipeBetween 23 = .ok (.iload_n 2, 1) := by decide +kernel
theorem dX3_pipeBetween_24 : decode cX3_pipeBetween 24 = .ok (.invokestatic 79, 3) := by decide +kernel
theorem dX3_pipeBetween_27 : decode cX3_pipeBetween 27 = .ok (.i2l, 1) := by decide +kernel
theorem dX3_pipeBetween_28 : decode cX3_pipeBetween 28 = .ok (.lor, 1) := by decide +kernel
theorem dX3_pipeBetween_29 : decode cX3_pipeBetween 29 = .ok (.lreturn, 1) := by decide +kernel
theorem dX3_leastReach_0 : decode cX3_leastReach 0 = .ok (.iconst 0, 1) := by decide +kernel
theorem dX3_leastReach_1 : decode cX3_leastReach 1 = .ok (.istore_n 1, 1) := by decide +kernel
theorem dX3_leastReach_2 : decode cX3_leastReach 2 = .ok (.iconst 1, 1) := by decide +kernel
theorem dX3_leastReach_3 : decode cX3_leastReach 3 = .ok (.istore_n 2, 1) := by decide +kernel
theorem dX3_leastReach_4 : decode cX3_leastReach 4 = .ok (.iload_n 2, 1) := by decide +kernel
theorem dX3_leastReach_5 : decode cX3_leastReach 5 = .ok (.aload_n 0, 1) := by decide +kernel
theorem dX3_leastReach_6 : decode cX3_leastReach 6 = .ok (.getfield 9, 3) := by decide +kernel
theorem dX3_leastReach_9 : decode cX3_leastReach 9 = .ok (.getfield 42, 3) := by decide +kernel
theorem dX3_leastReach_12 : decode cX3_leastReach 12 = .ok (.if_icmp .ge 53, 3) := by decide +kernel
theorem dX3_leastReach_15 : decode cX3_leastReach 15 = .ok (.aload_n 0, 1) := by decide +kernel
theorem dX3_leastReach_16 : decode cX3_leastReach 16 = .ok (.getfield 23, 3) := by decide +kernel
theorem dX3_leastReach_19 : decode cX3_leastReach 19 = .ok (.iload_n 2, 1) := by decide +kernel
theorem dX3_leastReach_20 : decode cX3_leastReach 20 = .ok (.laload, 1) := by decide +kernel
theorem dX3_leastReach_21 : decode cX3_leastReach 21 = .ok (.ldc2_w 43, 3) := by decide +kernel
theorem dX3_leastReach_24 : decode cX3_leastReach 24 = .ok (.lcmp, 1) := by decide +kernel
theorem dX3_leastReach_25 : decode cX3_leastReach 25 = .ok (.ifCond .eq 34, 3) := by decide +kernel
theorem dX3_leastReach_28 : decode cX3_leastReach 28 = .ok (.aload_n 0, 1) := by decide +kernel
theorem dX3_leastReach_29 : decode cX3_leastReach 29 = .ok (.getfield 23, 3) := by decide +kernel
theorem dX3_leastReach_32 : decode cX3_leastReach 32 = .ok (.iload_n 1, 1) := by decide +kernel
theorem dX3_leastReach_33 : decode cX3_leastReach 33 = .ok (.laload, 1) := by decide +kernel
theorem dX3_leastReach_34 : decode cX3_leastReach 34 = .ok (.ldc2_w 43, 3) := by decide +kernel
theorem dX3_leastReach_37 : decode cX3_leastReach 37 = .ok (.lcmp, 1) := by decide +kernel
theorem dX3_leastReach_38 : decode cX3_leastReach 38 = .ok (.ifCond .eq 19, 3) := by decide +kernel
theorem dX3_leastReach_41 : decode cX3_leastReach 41 = .ok (.aload_n 0, 1) := by decide +kernel
theorem dX3_leastReach_42 : decode cX3_leastReach 42 = .ok (.getfield 23, 3) := by decide +kernel
theorem dX3_leastReach_45 : decode cX3_leastReach 45 = .ok (.iload_n 2, 1) := by decide +kernel
theorem dX3_leastReach_46 : decode cX3_leastReach 46 = .ok (.laload, 1) := by decide +kernel
theorem dX3_leastReach_47 : decode cX3_leastReach 47 = .ok (.aload_n 0, 1) := by decide +kernel
theorem dX3_leastReach_48 : decode cX3_leastReach 48 = .ok (.getfield 23, 3) := by decide +kernel
theorem dX3_leastReach_51 : decode cX3_leastReach 51 = .ok (.iload_n 1, 1) := by decide +kernel
theorem dX3_leastReach_52 : decode cX3_leastReach 52 = .ok (.laload, 1) := by decide +kernel
theorem dX3_leastReach_53 : decode cX3_leastReach 53 = .ok (.lcmp, 1) := by decide +kernel
theorem dX3_leastReach_54 : decode cX3_leastReach 54 = .ok (.ifCond .ge 5, 3) := by decide +kernel
theorem dX3_leastReach_57 : decode cX3_leastReach 57 = .ok (.iload_n 2, 1) := by decide +kernel
theorem dX3_leastReach_58 : decode cX3_leastReach 58 = .ok (.istore_n 1, 1) := by decide +kernel
theorem dX3_leastReach_59 : decode cX3_leastReach 59 = .ok (.iinc 2 1, 3) := by decide +kernel
theorem dX3_leastReach_62 : decode cX3_leastReach 62 = .ok (.goto (-58), 3) := by decide +kernel
theorem dX3_leastReach_65 : decode cX3_leastReach 65 = .ok (.iload_n 1, 1) := by decide +kernel
theorem dX3_leastReach_66 : decode cX3_leastReach 66 = .ok (.ireturn, 1) := by decide +kernel
theorem dX3_addInOrder_0 : decode cX3_addInOrder 0 = .ok (.aload_n 0, 1) := by decide +kernel
theorem dX3_addInOrder_1 : decode cX3_addInOrder 1 = .ok (.getfield 31, 3) := by decide +kernel
theorem dX3_addInOrder_4 : decode cX3_addInOrder 4 = .ok (.bipush 23, 2) := by decide +kernel
theorem dX3_addInOrder_6 : decode cX3_addInOrder 6 = .ok (.if_icmp .lt 4, 3) := by decide +kernel
theorem dX3_addInOrder_9 : decode cX3_addInOrder 9 = .ok (.return_, 1) := by decide +kernel
theorem dX3_addInOrder_10 : decode cX3_addInOrder 10 = .ok (.aload_n 0, 1) := by decide +kernel
theorem dX3_addInOrder_11 : decode cX3_addInOrder 11 = .ok (.getfield 31, 3) := by decide +kernel
theorem dX3_addInOrder_14 : decode cX3_addInOrder 14 = .ok (.istore_n 3, 1) := by decide +kernel
theorem dX3_addInOrder_15 : decode cX3_addInOrder 15 = .ok (.aload_n 0, 1) := by decide +kernel
theorem dX3_addInOrder_16 : decode cX3_addInOrder 16 = .ok (.getfield 31, 3) := by decide +kernel
theorem dX3_addInOrder_19 : decode cX3_addInOrder 19 = .ok (.iconst 1, 1) := by decide +kernel
theorem dX3_addInOrder_20 : decode cX3_addInOrder 20 = .ok (.isub, 1) := by decide +kernel
theorem dX3_addInOrder_21 : decode cX3_addInOrder 21 = .ok (.istore 4, 2) := by decide +kernel
theorem dX3_addInOrder_23 : decode cX3_addInOrder 23 = .ok (.iload 4, 2) := by decide +kernel
theorem dX3_addInOrder_25 : decode cX3_addInOrder 25 = .ok (.ifCond .lt 40, 3) := by decide +kernel
theorem dX3_addInOrder_28 : decode cX3_addInOrder 28 = .ok (.aload_n 0, 1) := by decide +kernel
theorem dX3_addInOrder_29 : decode cX3_addInOrder 29 = .ok (.getfield 19, 3) := by decide +kernel
theorem dX3_addInOrder_32 : decode cX3_addInOrder 32 = .ok (.iload 4, 2) := by decide +kernel
theorem dX3_addInOrder_34 : decode cX3_addInOrder 34 = .ok (.laload, 1) := by decide +kernel
theorem dX3_addInOrder_35 : decode cX3_addInOrder 35 = .ok (.lload_n 1, 1) := by decide +kernel
theorem dX3_addInOrder_36 : decode cX3_addInOrder 36 = .ok (.lcmp, 1) := by decide +kernel
theorem dX3_addInOrder_37 : decode cX3_addInOrder 37 = .ok (.ifCond .le 28, 3) := by decide +kernel
theorem dX3_addInOrder_40 : decode cX3_addInOrder 40 = .ok (.aload_n 0, 1) := by decide +kernel
theorem dX3_addInOrder_41 : decode cX3_addInOrder 41 = .ok (.getfield 19, 3) := by decide +kernel
theorem dX3_addInOrder_44 : decode cX3_addInOrder 44 = .ok (.iload 4, 2) := by decide +kernel
theorem dX3_addInOrder_46 : decode cX3_addInOrder 46 = .ok (.iconst 1, 1) := by decide +kernel
theorem dX3_addInOrder_47 : decode cX3_addInOrder 47 = .ok (.iadd, 1) := by decide +kernel
theorem dX3_addInOrder_48 : decode cX3_addInOrder 48 = .ok (.aload_n 0, 1) := by decide +kernel
theorem dX3_addInOrder_49 : decode cX3_addInOrder 49 = .ok (.getfield 19, 3) := by decide +kernel
theorem dX3_addInOrder_52 : decode cX3_addInOrder 52 = .ok (.iload 4, 2) := by decide +kernel
theorem dX3_addInOrder_54 : decode cX3_addInOrder 54 = .ok (.laload, 1) := by decide +kernel
theorem dX3_addInOrder_55 : decode cX3_addInOrder 55 = .ok (.lastore, 1) := by decide +kernel
theorem dX3_addInOrder_56 : decode cX3_addInOrder 56 = .ok (.iload 4, 2) := by decide +kernel
theorem dX3_addInOrder_58 : decode cX3_addInOrder 58 = .ok (.istore_n 3, 1) := by decide +kernel
theorem dX3_addInOrder_59 : decode cX3_addInOrder 59 = .ok (.iinc 4 (-1), 3) := by decide +kernel
theorem dX3_addInOrder_62 : decode cX3_addInOrder 62 = .ok (.goto (-39), 3) := by decide +kernel
theorem dX3_addInOrder_65 : decode cX3_addInOrder 65 = .ok (.aload_n 0, 1) := by decide +kernel
theorem dX3_addInOrder_66 : decode cX3_addInOrder 66 = .ok (.getfield 19, 3) := by decide +kernel
theorem dX3_addInOrder_69 : decode cX3_addInOrder 69 = .ok (.iload_n 3, 1) := by decide +kernel
theorem dX3_addInOrder_70 : decode cX3_addInOrder 70 = .ok (.lload_n 1, 1) := by decide +kernel
theorem dX3_addInOrder_71 : decode cX3_addInOrder 71 = .ok (.lastore, 1) := by decide +kernel
theorem dX3_addInOrder_72 : decode cX3_addInOrder 72 = .ok (.aload_n 0, 1) := by decide +kernel
theorem dX3_addInOrder_73 : decode cX3_addInOrder 73 = .ok (.dup, 1) := by decide +kernel
theorem dX3_addInOrder_74 : decode cX3_addInOrder 74 = .ok (.getfield 31, 3) := by decide +kernel
theorem dX3_addInOrder_77 : decode cX3_addInOrder 77 = .ok (.iconst 1, 1) := by decide +kernel
theorem dX3_addInOrder_78 : decode cX3_addInOrder 78 = .ok (.iadd, 1) := by decide +kernel
theorem dX3_addInOrder_79 : decode cX3_addInOrder 79 = .ok (.putfield 31, 3) := by decide +kernel
theorem dX3_addInOrder_82 : decode cX3_addInOrder 82 = .ok (.return_, 1) := by decide +kernel
theorem dX4_init_0 : decode cX4_init 0 = .ok (.aload_n 0, 1) := by decide +kernel
theorem dX4_init_1 : decode cX4_init 1 = .ok (.invokespecial 1, 3) := by decide +kernel
theorem dX4_init_4 : decode cX4_init 4 = .ok (.aload_n 0, 1) := by decide +kernel
theorem dX4_init_5 : decode cX4_init 5 = .ok (.iload_n 1, 1) := by decide +kernel
theorem dX4_init_6 : decode cX4_init 6 = .ok (.newarray .long, 2) := by decide +kernel
theorem dX4_init_8 : decode cX4_init 8 = .ok (.putfield 7, 3) := by decide +kernel
theorem dX4_init_11 : decode cX4_init 11 = .ok (.aload_n 0, 1) := by decide +kernel
theorem dX4_init_12 : decode cX4_init 12 = .ok (.iload_n 1, 1) := by decide +kernel
theorem dX4_init_13 : decode cX4_init 13 = .ok (.newarray .long, 2) := by decide +kernel
theorem dX4_init_15 : decode cX4_init 15 = .ok (.putfield 13, 3) := by decide +kernel
theorem dX4_init_18 : decode cX4_init 18 = .ok (.aload_n 0, 1) := by decide +kernel
theorem dX4_init_19 : decode cX4_init 19 = .ok (.iload_n 1, 1) := by decide +kernel
theorem dX4_init_20 : decode cX4_init 20 = .ok (.newarray .long, 2) := by decide +kernel
theorem dX4_init_22 : decode cX4_init 22 = .ok (.putfield 16, 3) := by decide +kernel
theorem dX4_init_25 : decode cX4_init 25 = .ok (.aload_n 0, 1) := by decide +kernel
theorem dX4_init_26 : decode cX4_init 26 = .ok (.iload_n 1, 1) := by decide +kernel
theorem dX4_init_27 : decode cX4_init 27 = .ok (.newarray .int, 2) := by decide +kernel
theorem dX4_init_29 : decode cX4_init 29 = .ok (.putfield 19, 3) := by decide +kernel
theorem dX4_init_32 : decode cX4_init 32 = .ok (.return_, 1) := by decide +kernel
theorem dX4_add_0 : decode cX4_add 0 = .ok (.aload_n 0, 1) := by decide +kernel
theorem dX4_add_1 : decode cX4_add 1 = .ok (.getfield 23, 3) := by decide +kernel
theorem dX4_add_4 : decode cX4_add 4 = .ok (.aload_n 0, 1) := by decide +kernel
theorem dX4_add_5 : decode cX4_add 5 = .ok (.getfield 7, 3) := by decide +kernel
theorem dX4_add_8 : decode cX4_add 8 = .ok (.arraylength, 1) := by decide +kernel
theorem dX4_add_9 : decode cX4_add 9 = .ok (.if_icmp .ge 55, 3) := by decide +kernel
theorem dX4_add_12 : decode cX4_add 12 = .ok (.aload_n 0, 1) := by decide +kernel
theorem dX4_add_13 : decode cX4_add 13 = .ok (.getfield 7, 3) := by decide +kernel
theorem dX4_add_16 : decode cX4_add 16 = .ok (.aload_n 0, 1) := by decide +kernel
theorem dX4_add_17 : decode cX4_add 17 = .ok (.getfield 23, 3) := by decide +kernel
theorem dX4_add_20 : decode cX4_add 20 = .ok (.lload_n 1, 1) := by decide +kernel
theorem dX4_add_21 : decode cX4_add 21 = .ok (.lastore, 1) := by decide +kernel
theorem dX4_add_22 : decode cX4_add 22 = .ok (.aload_n 0, 1) := by decide +kernel
theorem dX4_add_23 : decode cX4_add 23 = .ok (.getfield 13, 3) := by decide +kernel
theorem dX4_add_26 : decode cX4_add 26 = .ok (.aload_n 0, 1) := by decide +kernel
theorem dX4_add_27 : decode cX4_add 27 = .ok (.getfield 23, 3) := by decide +kernel
theorem dX4_add_30 : decode cX4_add 30 = .ok (.lload_n 3, 1) := by decide +kernel
theorem dX4_add_31 : decode cX4_add 31 = .ok (.lastore, 1) := by decide +kernel
theorem dX4_add_32 : decode cX4_add 32 = .ok (.aload_n 0, 1) := by decide +kernel
theorem dX4_add_33 : decode cX4_add 33 = .ok (.getfield 16, 3) := by decide +kernel
theorem dX4_add_36 : decode cX4_add 36 = .ok (.aload_n 0, 1) := by decide +kernel
theorem dX4_add_37 : decode cX4_add 37 = .ok (.getfield 23, 3) := by decide +kernel
theorem dX4_add_40 : decode cX4_add 40 = .ok (.lload 5, 2) := by decide +kernel
theorem dX4_add_42 : decode cX4_add 42 = .ok (.lastore, 1) := by decide +kernel
theorem dX4_add_43 : decode cX4_add 43 = .ok (.aload_n 0, 1) := by decide +kernel
theorem dX4_add_44 : decode cX4_add 44 = .ok (.getfield 19, 3) := by decide +kernel
theorem dX4_add_47 : decode cX4_add 47 = .ok (.aload_n 0, 1) := by decide +kernel
theorem dX4_add_48 : decode cX4_add 48 = .ok (.getfield 23, 3) := by decide +kernel
theorem dX4_add_51 : decode cX4_add 51 = .ok (.iload 7, 2) := by decide +kernel
theorem dX4_add_53 : decode cX4_add 53 = .ok (.iastore, 1) := by decide +kernel
theorem dX4_add_54 : decode cX4_add 54 = .ok (.aload_n 0, 1) := by decide +kernel
theorem dX4_add_55 : decode cX4_add 55 = .ok (.dup, 1) := by decide +kernel
theorem dX4_add_56 : decode cX4_add 56 = .ok (.getfield 23, 3) := by decide +kernel
theorem dX4_add_59 : decode cX4_add 59 = .ok (.iconst 1, 1) := by decide +kernel
theorem dX4_add_60 : decode cX4_add 60 = .ok (.iadd, 1) := by decide +kernel
theorem dX4_add_61 : decode cX4_add 61 = .ok (.putfield 23, 3) := by decide +kernel
theorem dX4_add_64 : decode cX4_add 64 = .ok (.return_, 1) := by decide +kernel
theorem dX4_addFrom_0 : decode cX4_addFrom 0 = .ok (.aload_n 0, 1) := by decide +kernel
theorem dX4_addFrom_1 : decode cX4_addFrom 1 = .ok (.aload_n 1, 1) := by decide +kernel
theorem dX4_addFrom_2 : decode cX4_addFrom 2 = .ok (.getfield 7, 3) := by decide +kernel
theorem dX4_addFrom_5 : decode cX4_addFrom 5 = .ok (.iload_n 2, 1) := by decide +kernel
theorem dX4_addFrom_6 : decode cX4_addFrom 6 = .ok (.laload, 1) := by decide +kernel
theorem dX4_addFrom_7 : decode cX4_addFrom 7 = .ok (.aload_n 1, 1) := by decide +kernel
theorem dX4_addFrom_8 : decode cX4_addFrom 8 = .ok (.getfield 13, 3) := by decide +kernel
theorem dX4_addFrom_11 : decode cX4_addFrom 11 = .ok (.iload_n 2, 1) := by decide +kernel
