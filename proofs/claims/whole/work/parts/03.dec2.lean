theorem dX4_addFrom_12 : decode cX4_addFrom 12 = .ok (.laload, 1) := by decide +kernel
theorem dX4_addFrom_13 : decode cX4_addFrom 13 = .ok (.aload_n 1, 1) := by decide +kernel
theorem dX4_addFrom_14 : decode cX4_addFrom 14 = .ok (.getfield 16, 3) := by decide +kernel
theorem dX4_addFrom_17 : decode cX4_addFrom 17 = .ok (.iload_n 2, 1) := by decide +kernel
theorem dX4_addFrom_18 : decode cX4_addFrom 18 = .ok (.laload, 1) := by decide +kernel
theorem dX4_addFrom_19 : decode cX4_addFrom 19 = .ok (.iload_n 3, 1) := by decide +kernel
theorem dX4_addFrom_20 : decode cX4_addFrom 20 = .ok (.invokevirtual 27, 3) := by decide +kernel
theorem dX4_addFrom_23 : decode cX4_addFrom 23 = .ok (.return_, 1) := by decide +kernel
theorem dX4_isBefore_0 : decode cX4_isBefore 0 = .ok (.aload_n 0, 1) := by decide +kernel
theorem dX4_isBefore_1 : decode cX4_isBefore 1 = .ok (.getfield 7, 3) := by decide +kernel
theorem dX4_isBefore_4 : decode cX4_isBefore 4 = .ok (.iload_n 1, 1) := by decide +kernel
theorem dX4_isBefore_5 : decode cX4_isBefore 5 = .ok (.laload, 1) := by decide +kernel
theorem dX4_isBefore_6 : decode cX4_isBefore 6 = .ok (.aload_n 0, 1) := by decide +kernel
theorem dX4_isBefore_7 : decode cX4_isBefore 7 = .ok (.getfield 16, 3) := by decide +kernel
theorem dX4_isBefore_10 : decode cX4_isBefore 10 = .ok (.iload_n 2, 1) := by decide +kernel
theorem dX4_isBefore_11 : decode cX4_isBefore 11 = .ok (.laload, 1) := by decide +kernel
theorem dX4_isBefore_12 : decode cX4_isBefore 12 = .ok (.lmul, 1) := by decide +kernel
theorem dX4_isBefore_13 : decode cX4_isBefore 13 = .ok (.aload_n 0, 1) := by decide +kernel
theorem dX4_isBefore_14 : decode cX4_isBefore 14 = .ok (.getfield 7, 3) := by decide +kernel
theorem dX4_isBefore_17 : decode cX4_isBefore 17 = .ok (.iload_n 2, 1) := by decide +kernel
theorem dX4_isBefore_18 : decode cX4_isBefore 18 = .ok (.laload, 1) := by decide +kernel
theorem dX4_isBefore_19 : decode cX4_isBefore 19 = .ok (.aload_n 0, 1) := by decide +kernel
theorem dX4_isBefore_20 : decode cX4_isBefore 20 = .ok (.getfield 16, 3) := by decide +kernel
theorem dX4_isBefore_23 : decode cX4_isBefore 23 = .ok (.iload_n 1, 1) := by decide +kernel
theorem dX4_isBefore_24 : decode cX4_isBefore 24 = .ok (.laload, 1) := by decide +kernel
theorem dX4_isBefore_25 : decode cX4_isBefore 25 = .ok (.lmul, 1) := by decide +kernel
theorem dX4_isBefore_26 : decode cX4_isBefore 26 = .ok (.lsub, 1) := by decide +kernel
theorem dX4_isBefore_27 : decode cX4_isBefore 27 = .ok (.lstore_n 3, 1) := by decide +kernel
theorem dX4_isBefore_28 : decode cX4_isBefore 28 = .ok (.lload_n 3, 1) := by decide +kernel
theorem dX4_isBefore_29 : decode cX4_isBefore 29 = .ok (.lconst 0, 1) := by decide +kernel
theorem dX4_isBefore_30 : decode cX4_isBefore 30 = .ok (.lcmp, 1) := by decide +kernel
theorem dX4_isBefore_31 : decode cX4_isBefore 31 = .ok (.ifCond .lt 39, 3) := by decide +kernel
theorem dX4_isBefore_34 : decode cX4_isBefore 34 = .ok (.lload_n 3, 1) := by decide +kernel
theorem dX4_isBefore_35 : decode cX4_isBefore 35 = .ok (.lconst 0, 1) := by decide +kernel
theorem dX4_isBefore_36 : decode cX4_isBefore 36 = .ok (.lcmp, 1) := by decide +kernel
theorem dX4_isBefore_37 : decode cX4_isBefore 37 = .ok (.ifCond .ne 37, 3) := by decide +kernel
theorem dX4_isBefore_40 : decode cX4_isBefore 40 = .ok (.aload_n 0, 1) := by decide +kernel
theorem dX4_isBefore_41 : decode cX4_isBefore 41 = .ok (.getfield 13, 3) := by decide +kernel
theorem dX4_isBefore_44 : decode cX4_isBefore 44 = .ok (.iload_n 1, 1) := by decide +kernel
theorem dX4_isBefore_45 : decode cX4_isBefore 45 = .ok (.laload, 1) := by decide +kernel
theorem dX4_isBefore_46 : decode cX4_isBefore 46 = .ok (.aload_n 0, 1) := by decide +kernel
theorem dX4_isBefore_47 : decode cX4_isBefore 47 = .ok (.getfield 16, 3) := by decide +kernel
theorem dX4_isBefore_50 : decode cX4_isBefore 50 = .ok (.iload_n 2, 1) := by decide +kernel
theorem dX4_isBefore_51 : decode cX4_isBefore 51 = .ok (.laload, 1) := by decide +kernel
theorem dX4_isBefore_52 : decode cX4_isBefore 52 = .ok (.lmul, 1) := by decide +kernel
theorem dX4_isBefore_53 : decode cX4_isBefore 53 = .ok (.aload_n 0, 1) := by decide +kernel
theorem dX4_isBefore_54 : decode cX4_isBefore 54 = .ok (.getfield 13, 3) := by decide +kernel
theorem dX4_isBefore_57 : decode cX4_isBefore 57 = .ok (.iload_n 2, 1) := by decide +kernel
theorem dX4_isBefore_58 : decode cX4_isBefore 58 = .ok (.laload, 1) := by decide +kernel
theorem dX4_isBefore_59 : decode cX4_isBefore 59 = .ok (.aload_n 0, 1) := by decide +kernel
theorem dX4_isBefore_60 : decode cX4_isBefore 60 = .ok (.getfield 16, 3) := by decide +kernel
theorem dX4_isBefore_63 : decode cX4_isBefore 63 = .ok (.iload_n 1, 1) := by decide +kernel
theorem dX4_isBefore_64 : decode cX4_isBefore 64 = .ok (.laload, 1) := by decide +kernel
theorem dX4_isBefore_65 : decode cX4_isBefore 65 = .ok (.lmul, 1) := by decide +kernel
theorem dX4_isBefore_66 : decode cX4_isBefore 66 = .ok (.lcmp, 1) := by decide +kernel
theorem dX4_isBefore_67 : decode cX4_isBefore 67 = .ok (.ifCond .ge 7, 3) := by decide +kernel
theorem dX4_isBefore_70 : decode cX4_isBefore 70 = .ok (.iconst 1, 1) := by decide +kernel
theorem dX4_isBefore_71 : decode cX4_isBefore 71 = .ok (.goto 4, 3) := by decide +kernel
theorem dX4_isBefore_74 : decode cX4_isBefore 74 = .ok (.iconst 0, 1) := by decide +kernel
theorem dX4_isBefore_75 : decode cX4_isBefore 75 = .ok (.ireturn, 1) := by decide +kernel
theorem dX5_init_0 : decode cX5_init 0 = .ok (.aload_n 0, 1) := by decide +kernel
theorem dX5_init_1 : decode cX5_init 1 = .ok (.invokespecial 3, 3) := by decide +kernel
theorem dX5_init_4 : decode cX5_init 4 = .ok (.aload_n 0, 1) := by decide +kernel
theorem dX5_init_5 : decode cX5_init 5 = .ok (.bipush 8, 2) := by decide +kernel
theorem dX5_init_7 : decode cX5_init 7 = .ok (.newarray .int, 2) := by decide +kernel
theorem dX5_init_9 : decode cX5_init 9 = .ok (.putfield 9, 3) := by decide +kernel
theorem dX5_init_12 : decode cX5_init 12 = .ok (.aload_n 0, 1) := by decide +kernel
theorem dX5_init_13 : decode cX5_init 13 = .ok (.bipush 8, 2) := by decide +kernel
theorem dX5_init_15 : decode cX5_init 15 = .ok (.newarray .int, 2) := by decide +kernel
theorem dX5_init_17 : decode cX5_init 17 = .ok (.putfield 15, 3) := by decide +kernel
theorem dX5_init_20 : decode cX5_init 20 = .ok (.aload_n 0, 1) := by decide +kernel
theorem dX5_init_21 : decode cX5_init 21 = .ok (.sipush 192, 3) := by decide +kernel
theorem dX5_init_24 : decode cX5_init 24 = .ok (.newarray .int, 2) := by decide +kernel
theorem dX5_init_26 : decode cX5_init 26 = .ok (.putfield 18, 3) := by decide +kernel
theorem dX5_init_29 : decode cX5_init 29 = .ok (.aload_n 0, 1) := by decide +kernel
theorem dX5_init_30 : decode cX5_init 30 = .ok (.sipush 192, 3) := by decide +kernel
theorem dX5_init_33 : decode cX5_init 33 = .ok (.newarray .int, 2) := by decide +kernel
theorem dX5_init_35 : decode cX5_init 35 = .ok (.putfield 21, 3) := by decide +kernel
theorem dX5_init_38 : decode cX5_init 38 = .ok (.aload_n 0, 1) := by decide +kernel
theorem dX5_init_39 : decode cX5_init 39 = .ok (.sipush 192, 3) := by decide +kernel
theorem dX5_init_42 : decode cX5_init 42 = .ok (.newarray .int, 2) := by decide +kernel
theorem dX5_init_44 : decode cX5_init 44 = .ok (.putfield 24, 3) := by decide +kernel
theorem dX5_init_47 : decode cX5_init 47 = .ok (.aload_n 0, 1) := by decide +kernel
theorem dX5_init_48 : decode cX5_init 48 = .ok (.sipush 192, 3) := by decide +kernel
theorem dX5_init_51 : decode cX5_init 51 = .ok (.newarray .int, 2) := by decide +kernel
theorem dX5_init_53 : decode cX5_init 53 = .ok (.putfield 27, 3) := by decide +kernel
theorem dX5_init_56 : decode cX5_init 56 = .ok (.return_, 1) := by decide +kernel
theorem dX5_remember_0 : decode cX5_remember 0 = .ok (.aload_n 0, 1) := by decide +kernel
theorem dX5_remember_1 : decode cX5_remember 1 = .ok (.getfield 30, 3) := by decide +kernel
theorem dX5_remember_4 : decode cX5_remember 4 = .ok (.bipush 24, 2) := by decide +kernel
theorem dX5_remember_6 : decode cX5_remember 6 = .ok (.imul, 1) := by decide +kernel
theorem dX5_remember_7 : decode cX5_remember 7 = .ok (.istore_n 2, 1) := by decide +kernel
theorem dX5_remember_8 : decode cX5_remember 8 = .ok (.aload_n 0, 1) := by decide +kernel
theorem dX5_remember_9 : decode cX5_remember 9 = .ok (.getfield 9, 3) := by decide +kernel
theorem dX5_remember_12 : decode cX5_remember 12 = .ok (.aload_n 0, 1) := by decide +kernel
theorem dX5_remember_13 : decode cX5_remember 13 = .ok (.getfield 30, 3) := by decide +kernel
theorem dX5_remember_16 : decode cX5_remember 16 = .ok (.aload_n 1, 1) := by decide +kernel
theorem dX5_remember_17 : decode cX5_remember 17 = .ok (.getfield 34, 3) := by decide +kernel
theorem dX5_remember_20 : decode cX5_remember 20 = .ok (.iastore, 1) := by decide +kernel
theorem dX5_remember_21 : decode cX5_remember 21 = .ok (.aload_n 0, 1) := by decide +kernel
theorem dX5_remember_22 : decode cX5_remember 22 = .ok (.getfield 15, 3) := by decide +kernel
theorem dX5_remember_25 : decode cX5_remember 25 = .ok (.aload_n 0, 1) := by decide +kernel
theorem dX5_remember_26 : decode cX5_remember 26 = .ok (.getfield 30, 3) := by decide +kernel
theorem dX5_remember_29 : decode cX5_remember 29 = .ok (.aload_n 1, 1) := by decide +kernel
theorem dX5_remember_30 : decode cX5_remember 30 = .ok (.getfield 38, 3) := by decide +kernel
theorem dX5_remember_33 : decode cX5_remember 33 = .ok (.iastore, 1) := by decide +kernel
theorem dX5_remember_34 : decode cX5_remember 34 = .ok (.aload_n 1, 1) := by decide +kernel
theorem dX5_remember_35 : decode cX5_remember 35 = .ok (.getfield 40, 3) := by decide +kernel
theorem dX5_remember_38 : decode cX5_remember 38 = .ok (.iconst 0, 1) := by decide +kernel
theorem dX5_remember_39 : decode cX5_remember 39 = .ok (.aload_n 0, 1) := by decide +kernel
theorem dX5_remember_40 : decode cX5_remember 40 = .ok (.getfield 18, 3) := by decide +kernel
theorem dX5_remember_43 : decode cX5_remember 43 = .ok (.iload_n 2, 1) := by decide +kernel
theorem dX5_remember_44 : decode cX5_remember 44 = .ok (.bipush 24, 2) := by decide +kernel
theorem dX5_remember_46 : decode cX5_remember 46 = .ok (.invokestatic 41, 3) := by decide +kernel
theorem dX5_remember_49 : decode cX5_remember 49 = .ok (.aload_n 1, 1) := by decide +kernel
theorem dX5_remember_50 : decode cX5_remember 50 = .ok (.getfield 47, 3) := by decide +kernel
theorem dX5_remember_53 : decode cX5_remember 53 = .ok (.iconst 0, 1) := by decide +kernel
theorem dX5_remember_54 : decode cX5_remember 54 = .ok (.aload_n 0, 1) := by decide +kernel
theorem dX5_remember_55 : decode cX5_remember 55 = .ok (.getfield 21, 3) := by decide +kernel
theorem dX5_remember_58 : decode cX5_remember 58 = .ok (.iload_n 2, 1) := by decide +kernel
theorem dX5_remember_59 : decode cX5_remember 59 = .ok (.bipush 24, 2) := by decide +kernel
theorem dX5_remember_61 : decode cX5_remember 61 = .ok (.invokestatic 41, 3) := by decide +kernel
theorem dX5_remember_64 : decode cX5_remember 64 = .ok (.aload_n 1, 1) := by decide +kernel
theorem dX5_remember_65 : decode cX5_remember 65 = .ok (.getfield 48, 3) := by decide +kernel
theorem dX5_remember_68 : decode cX5_remember 68 = .ok (.iconst 0, 1) := by decide +kernel
theorem dX5_remember_69 : decode cX5_remember 69 = .ok (.aload_n 0, 1) := by decide +kernel
theorem dX5_remember_70 : decode cX5_remember 70 = .ok (.getfield 24, 3) := by decide +kernel
theorem dX5_remember_73 : decode cX5_remember 73 = .ok (.iload_n 2, 1) := by decide +kernel
theorem dX5_remember_74 : decode cX5_remember 74 = .ok (.bipush 24, 2) := by decide +kernel
theorem dX5_remember_76 : decode cX5_remember 76 = .ok (.invokestatic 41, 3) := by decide +kernel
theorem dX5_remember_79 : decode cX5_remember 79 = .ok (.aload_n 1, 1) := by decide +kernel
theorem dX5_remember_80 : decode cX5_remember 80 = .ok (.getfield 49, 3) := by decide +kernel
theorem dX5_remember_83 : decode cX5_remember 83 = .ok (.iconst 0, 1) := by decide +kernel
theorem dX5_remember_84 : decode cX5_remember 84 = .ok (.aload_n 0, 1) := by decide +kernel
theorem dX5_remember_85 : decode cX5_remember 85 = .ok (.getfield 27, 3) := by decide +kernel
theorem dX5_remember_88 : decode cX5_remember 88 = .ok (.iload_n 2, 1) := by decide +kernel
theorem dX5_remember_89 : decode cX5_remember 89 = .ok (.bipush 24, 2) := by decide +kernel
theorem dX5_remember_91 : decode cX5_remember 91 = .ok (.invokestatic 41, 3) := by decide +kernel
theorem dX5_remember_94 : decode cX5_remember 94 = .ok (.aload_n 0, 1) := by decide +kernel
theorem dX5_remember_95 : decode cX5_remember 95 = .ok (.aload_n 0, 1) := by decide +kernel
theorem dX5_remember_96 : decode cX5_remember 96 = .ok (.getfield 30, 3) := by decide +kernel
theorem dX5_remember_99 : decode cX5_remember 99 = .ok (.iconst 1, 1) := by decide +kernel
theorem dX5_remember_100 : decode cX5_remember 100 = .ok (.iadd, 1) := by decide +kernel
theorem dX5_remember_101 : decode cX5_remember 101 = .ok (.bipush 8, 2) := by decide +kernel
theorem dX5_remember_103 : decode cX5_remember 103 = .ok (.if_icmp .ge 12, 3) := by decide +kernel
theorem dX5_remember_106 : decode cX5_remember 106 = .ok (.aload_n 0, 1) := by decide +kernel
theorem dX5_remember_107 : decode cX5_remember 107 = .ok (.getfield 30, 3) := by decide +kernel
theorem dX5_remember_110 : decode cX5_remember 110 = .ok (.iconst 1, 1) := by decide +kernel
theorem dX5_remember_111 : decode cX5_remember 111 = .ok (.iadd, 1) := by decide +kernel
theorem dX5_remember_112 : decode cX5_remember 112 = .ok (.goto 4, 3) := by decide +kernel
theorem dX5_remember_115 : decode cX5_remember 115 = .ok (.iconst 0, 1) := by decide +kernel
theorem dX5_remember_116 : decode cX5_remember 116 = .ok (.putfield 30, 3) := by decide +kernel
theorem dX5_remember_119 : decode cX5_remember 119 = .ok (.aload_n 0, 1) := by decide +kernel
theorem dX5_remember_120 : decode cX5_remember 120 = .ok (.aload_n 0, 1) := by decide +kernel
theorem dX5_remember_121 : decode cX5_remember 121 = .ok (.getfield 50, 3) := by decide +kernel
theorem dX5_remember_124 : decode cX5_remember 124 = .ok (.iconst 1, 1) := by decide +kernel
theorem dX5_remember_125 : decode cX5_remember 125 = .ok (.iadd, 1) := by decide +kernel
theorem dX5_remember_126 : decode cX5_remember 126 = .ok (.bipush 8, 2) := by decide +kernel
theorem dX5_remember_128 : decode cX5_remember 128 = .ok (.invokestatic 53, 3) := by decide +kernel
theorem dX5_remember_131 : decode cX5_remember 131 = .ok (.putfield 50, 3) := by decide +kernel
theorem dX5_remember_134 : decode cX5_remember 134 = .ok (.return_, 1) := by decide +kernel
theorem dX5_takeBack_0 : decode cX5_takeBack 0 = .ok (.aload_n 0, 1) := by decide +kernel
theorem dX5_takeBack_1 : decode cX5_takeBack 1 = .ok (.getfield 50, 3) := by decide +kernel
theorem dX5_takeBack_4 : decode cX5_takeBack 4 = .ok (.ifCond .ne 5, 3) := by decide +kernel
theorem dX5_takeBack_7 : decode cX5_takeBack 7 = .ok (.iconst 0, 1) := by decide +kernel
theorem dX5_takeBack_8 : decode cX5_takeBack 8 = .ok (.ireturn, 1) := by decide +kernel
theorem dX5_takeBack_9 : decode cX5_takeBack 9 = .ok (.aload_n 0, 1) := by decide +kernel
theorem dX5_takeBack_10 : decode cX5_takeBack 10 = .ok (.dup, 1) := by decide +kernel
theorem dX5_takeBack_11 : decode cX5_takeBack 11 = .ok (.getfield 50, 3) := by decide +kernel
theorem dX5_takeBack_14 : decode cX5_takeBack 14 = .ok (.iconst 1, 1) := by decide +kernel
theorem dX5_takeBack_15 : decode cX5_takeBack 15 = .ok (.isub, 1) := by decide +kernel
theorem dX5_takeBack_16 : decode cX5_takeBack 16 = .ok (.putfield 50, 3) := by decide +kernel
theorem dX5_takeBack_19 : decode cX5_takeBack 19 = .ok (.aload_n 0, 1) := by decide +kernel
theorem dX5_takeBack_20 : decode cX5_takeBack 20 = .ok (.aload_n 0, 1) := by decide +kernel
theorem dX5_takeBack_21 : decode cX5_takeBack 21 = .ok (.getfield 30, 3) := by decide +kernel
theorem dX5_takeBack_24 : decode cX5_takeBack 24 = .ok (.ifCond .le 12, 3) := by decide +kernel
theorem dX5_takeBack_27 : decode cX5_takeBack 27 = .ok (.aload_n 0, 1) := by decide +kernel
theorem dX5_takeBack_28 : decode cX5_takeBack 28 = .ok (.getfield 30, 3) := by decide +kernel
theorem dX5_takeBack_31 : decode cX5_takeBack 31 = .ok (.iconst 1, 1) := by decide +kernel
theorem dX5_takeBack_32 : decode cX5_takeBack 32 = .ok (.isub, 1) := by decide +kernel
theorem dX5_takeBack_33 : decode cX5_takeBack 33 = .ok (.goto 5, 3) := by decide +kernel
theorem dX5_takeBack_36 : decode cX5_takeBack 36 = .ok (.bipush 7, 2) := by decide +kernel
theorem dX5_takeBack_38 : decode cX5_takeBack 38 = .ok (.putfield 30, 3) := by decide +kernel
theorem dX5_takeBack_41 : decode cX5_takeBack 41 = .ok (.aload_n 0, 1) := by decide +kernel
theorem dX5_takeBack_42 : decode cX5_takeBack 42 = .ok (.getfield 30, 3) := by decide +kernel
theorem dX5_takeBack_45 : decode cX5_takeBack 45 = .ok (.bipush 24, 2) := by decide +kernel
theorem dX5_takeBack_47 : decode cX5_takeBack 47 = .ok (.imul, 1) := by decide +kernel
theorem dX5_takeBack_48 : decode cX5_takeBack 48 = .ok (.istore_n 2, 1) := by decide +kernel
theorem dX5_takeBack_49 : decode cX5_takeBack 49 = .ok (.aload_n 0, 1) := by decide +kernel
theorem dX5_takeBack_50 : decode cX5_takeBack 50 = .ok (.getfield 18, 3) := by decide +kernel
theorem dX5_takeBack_53 : decode cX5_takeBack 53 = .ok (.iload_n 2, 1) := by decide +kernel
theorem dX5_takeBack_54 : decode cX5_takeBack 54 = .ok (.aload_n 1, 1) := by decide +kernel
theorem dX5_takeBack_55 : decode cX5_takeBack 55 = .ok (.getfield 40, 3) := by decide +kernel
theorem dX5_takeBack_58 : decode cX5_takeBack 58 = .ok (.iconst 0, 1) := by decide +kernel
theorem dX5_takeBack_59 : decode cX5_takeBack 59 = .ok (.bipush 24, 2) := by decide +kernel
theorem dX5_takeBack_61 : decode cX5_takeBack 61 = .ok (.invokestatic 41, 3) := by decide +kernel
theorem dX5_takeBack_64 : decode cX5_takeBack 64 = .ok (.aload_n 0, 1) := by decide +kernel
theorem dX5_takeBack_65 : decode cX5_takeBack 65 = .ok (.getfield 21, 3) := by decide +kernel
theorem dX5_takeBack_68 : decode cX5_takeBack 68 = .ok (.iload_n 2, 1) := by decide +kernel
theorem dX5_takeBack_69 : decode cX5_takeBack 69 = .ok (.aload_n 1, 1) := by decide +kernel
theorem dX5_takeBack_70 : decode cX5_takeBack 70 = .ok (.getfield 47, 3) := by decide +kernel
theorem dX5_takeBack_73 : decode cX5_takeBack 73 = .ok (.iconst 0, 1) := by decide +kernel
theorem dX5_takeBack_74 : decode cX5_takeBack 74 = .ok (.bipush 24, 2) := by decide +kernel
theorem dX5_takeBack_76 : decode cX5_takeBack 76 = .ok (.invokestatic 41, 3) := by decide +kernel
theorem dX5_takeBack_79 : decode cX5_takeBack 79 = .ok (.aload_n 0, 1) := by decide +kernel
theorem dX5_takeBack_80 : decode cX5_takeBack 80 = .ok (.getfield 24, 3) := by decide +kernel
theorem dX5_takeBack_83 : decode cX5_takeBack 83 = .ok (.iload_n 2, 1) := by decide +kernel
theorem dX5_takeBack_84 : decode cX5_takeBack 84 = .ok (.aload_n 1, 1) := by decide +kernel
theorem dX5_takeBack_85 : decode cX5_takeBack 85 = .ok (.getfield 48, 3) := by decide +kernel
theorem dX5_takeBack_88 : decode cX5_takeBack 88 = .ok (.iconst 0, 1) := by decide +kernel
theorem dX5_takeBack_89 : decode cX5_takeBack 89 = .ok (.bipush 24, 2) := by decide +kernel
theorem dX5_takeBack_91 : decode cX5_takeBack 91 = .ok (.invokestatic 41, 3) := by decide +kernel
theorem dX5_takeBack_94 : decode cX5_takeBack 94 = .ok (.aload_n 0, 1) := by decide +kernel
theorem dX5_takeBack_95 : decode cX5_takeBack 95 = .ok (.getfield 27, 3) := by decide +kernel
theorem dX5_takeBack_98 : decode cX5_takeBack 98 = .ok (.iload_n 2, 1) := by decide +kernel
theorem dX5_takeBack_99 : decode cX5_takeBack 99 = .ok (.aload_n 1, 1) := by decide +kernel
theorem dX5_takeBack_100 : decode cX5_takeBack 100 = .ok (.getfield 49, 3) := by decide +kernel
theorem dX5_takeBack_103 : decode cX5_takeBack 103 = .ok (.iconst 0, 1) := by decide +kernel
theorem dX5_takeBack_104 : decode cX5_takeBack 104 = .ok (.bipush 24, 2) := by decide +kernel
theorem dX5_takeBack_106 : decode cX5_takeBack 106 = .ok (.invokestatic 41, 3) := by decide +kernel
theorem dX5_takeBack_109 : decode cX5_takeBack 109 = .ok (.aload_n 1, 1) := by decide +kernel
theorem dX5_takeBack_110 : decode cX5_takeBack 110 = .ok (.aload_n 0, 1) := by decide +kernel
theorem dX5_takeBack_111 : decode cX5_takeBack 111 = .ok (.getfield 9, 3) := by decide +kernel
theorem dX5_takeBack_114 : decode cX5_takeBack 114 = .ok (.aload_n 0, 1) := by decide +kernel
theorem dX5_takeBack_115 : decode cX5_takeBack 115 = .ok (.getfield 30, 3) := by decide +kernel
theorem dX5_takeBack_118 : decode cX5_takeBack 118 = .ok (.iaload, 1) := by decide +kernel
theorem dX5_takeBack_119 : decode cX5_takeBack 119 = .ok (.aload_n 0, 1) := by decide +kernel
theorem dX5_takeBack_120 : decode cX5_takeBack 120 = .ok (.getfield 15, 3) := by decide +kernel
theorem dX5_takeBack_123 : decode cX5_takeBack 123 = .ok (.aload_n 0, 1) := by decide +kernel
theorem dX5_takeBack_124 : decode cX5_takeBack 124 = .ok (.getfield 30, 3) := by decide +kernel
theorem dX5_takeBack_127 : decode cX5_takeBack 127 = .ok (.iaload, 1) := by decide +kernel
theorem dX5_takeBack_128 : decode cX5_takeBack 128 = .ok (.invokevirtual 59, 3) := by decide +kernel
theorem dX5_takeBack_131 : decode cX5_takeBack 131 = .ok (.iconst 1, 1) := by decide +kernel
theorem dX5_takeBack_132 : decode cX5_takeBack 132 = .ok (.ireturn, 1) := by decide +kernel
theorem dX6_init_0 : decode cX6_init 0 = .ok (.aload_n 0, 1) := by decide +kernel
theorem dX6_init_1 : decode cX6_init 1 = .ok (.invokespecial 3, 3) := by decide +kernel
theorem dX6_init_4 : decode cX6_init 4 = .ok (.aload_n 0, 1) := by decide +kernel
theorem dX6_init_5 : decode cX6_init 5 = .ok (.aload_n 1, 1) := by decide +kernel
theorem dX6_init_6 : decode cX6_init 6 = .ok (.putfield 9, 3) := by decide +kernel
theorem dX6_init_9 : decode cX6_init 9 = .ok (.aload_n 0, 1) := by decide +kernel
theorem dX6_init_10 : decode cX6_init 10 = .ok (.iconst (-1), 1) := by decide +kernel
theorem dX6_init_11 : decode cX6_init 11 = .ok (.putfield 15, 3) := by decide +kernel
theorem dX6_init_14 : decode cX6_init 14 = .ok (.aload_n 0, 1) := by decide +kernel
theorem dX6_init_15 : decode cX6_init 15 = .ok (.bipush 48, 2) := by decide +kernel
theorem dX6_init_17 : decode cX6_init 17 = .ok (.newarray .int, 2) := by decide +kernel
theorem dX6_init_19 : decode cX6_init 19 = .ok (.putfield 19, 3) := by decide +kernel
theorem dX6_init_22 : decode cX6_init 22 = .ok (.aload_n 0, 1) := by decide +kernel
theorem dX6_init_23 : decode cX6_init 23 = .ok (.bipush 48, 2) := by decide +kernel
theorem dX6_init_25 : decode cX6_init 25 = .ok (.newarray .int, 2) := by decide +kernel
theorem dX6_init_27 : decode cX6_init 27 = .ok (.putfield 23, 3) := by decide +kernel
theorem dX6_init_30 : decode cX6_init 30 = .ok (.aload_n 0, 1) := by decide +kernel
theorem dX6_init_31 : decode cX6_init 31 = .ok (.bipush 48, 2) := by decide +kernel
theorem dX6_init_33 : decode cX6_init 33 = .ok (.newarray .long, 2) := by decide +kernel
theorem dX6_init_35 : decode cX6_init 35 = .ok (.putfield 26, 3) := by decide +kernel
theorem dX6_init_38 : decode cX6_init 38 = .ok (.aload_n 0, 1) := by decide +kernel
theorem dX6_init_39 : decode cX6_init 39 = .ok (.bipush 48, 2) := by decide +kernel
theorem dX6_init_41 : decode cX6_init 41 = .ok (.newarray .long, 2) := by decide +kernel
theorem dX6_init_43 : decode cX6_init 43 = .ok (.putfield 30, 3) := by decide +kernel
theorem dX6_init_46 : decode cX6_init 46 = .ok (.aload_n 0, 1) := by decide +kernel
theorem dX6_init_47 : decode cX6_init 47 = .ok (.bipush 48, 2) := by decide +kernel
theorem dX6_init_49 : decode cX6_init 49 = .ok (.newarray .long, 2) := by decide +kernel
theorem dX6_init_51 : decode cX6_init 51 = .ok (.putfield 33, 3) := by decide +kernel
theorem dX6_init_54 : decode cX6_init 54 = .ok (.return_, 1) := by decide +kernel
theorem dX6_findOnce_0 : decode cX6_findOnce 0 = .ok (.aload_n 0, 1) := by decide +kernel
theorem dX6_findOnce_1 : decode cX6_findOnce 1 = .ok (.getfield 15, 3) := by decide +kernel
theorem dX6_findOnce_4 : decode cX6_findOnce 4 = .ok (.aload_n 0, 1) := by decide +kernel
theorem dX6_findOnce_5 : decode cX6_findOnce 5 = .ok (.getfield 9, 3) := by decide +kernel
theorem dX6_findOnce_8 : decode cX6_findOnce 8 = .ok (.getfield 36, 3) := by decide +kernel
theorem dX6_findOnce_11 : decode cX6_findOnce 11 = .ok (.if_icmp .ne 4, 3) := by decide +kernel
theorem dX6_findOnce_14 : decode cX6_findOnce 14 = .ok (.return_, 1) := by decide +kernel
theorem dX6_findOnce_15 : decode cX6_findOnce 15 = .ok (.aload_n 0, 1) := by decide +kernel
theorem dX6_findOnce_16 : decode cX6_findOnce 16 = .ok (.aload_n 0, 1) := by decide +kernel
theorem dX6_findOnce_17 : decode cX6_findOnce 17 = .ok (.getfield 9, 3) := by decide +kernel
theorem dX6_findOnce_20 : decode cX6_findOnce 20 = .ok (.getfield 36, 3) := by decide +kernel
theorem dX6_findOnce_23 : decode cX6_findOnce 23 = .ok (.putfield 15, 3) := by decide +kernel
theorem dX6_findOnce_26 : decode cX6_findOnce 26 = .ok (.aload_n 0, 1) := by decide +kernel
theorem dX6_findOnce_27 : decode cX6_findOnce 27 = .ok (.iconst 0, 1) := by decide +kernel
theorem dX6_findOnce_28 : decode cX6_findOnce 28 = .ok (.putfield 41, 3) := by decide +kernel
theorem dX6_findOnce_31 : decode cX6_findOnce 31 = .ok (.iconst 0, 1) := by decide +kernel
theorem dX6_findOnce_32 : decode cX6_findOnce 32 = .ok (.istore_n 1, 1) := by decide +kernel
theorem dX6_findOnce_33 : decode cX6_findOnce 33 = .ok (.iload_n 1, 1) := by decide +kernel
theorem dX6_findOnce_34 : decode cX6_findOnce 34 = .ok (.aload_n 0, 1) := by decide +kernel
theorem dX6_findOnce_35 : decode cX6_findOnce 35 = .ok (.getfield 9, 3) := by decide +kernel
theorem dX6_findOnce_38 : decode cX6_findOnce 38 = .ok (.getfield 44, 3) := by decide +kernel
theorem dX6_findOnce_41 : decode cX6_findOnce 41 = .ok (.if_icmp .ge 82, 3) := by decide +kernel
theorem dX6_findOnce_44 : decode cX6_findOnce 44 = .ok (.iload_n 1, 1) := by decide +kernel
theorem dX6_findOnce_45 : decode cX6_findOnce 45 = .ok (.iconst 1, 1) := by decide +kernel
theorem dX6_findOnce_46 : decode cX6_findOnce 46 = .ok (.iadd, 1) := by decide +kernel
theorem dX6_findOnce_47 : decode cX6_findOnce 47 = .ok (.istore_n 2, 1) := by decide +kernel
theorem dX6_findOnce_48 : decode cX6_findOnce 48 = .ok (.iload_n 2, 1) := by decide +kernel
theorem dX6_findOnce_49 : decode cX6_findOnce 49 = .ok (.aload_n 0, 1) := by decide +kernel
theorem dX6_findOnce_50 : decode cX6_findOnce 50 = .ok (.getfield 9, 3) := by decide +kernel
theorem dX6_findOnce_53 : decode cX6_findOnce 53 = .ok (.getfield 44, 3) := by decide +kernel
theorem dX6_findOnce_56 : decode cX6_findOnce 56 = .ok (.if_icmp .ge 61, 3) := by decide +kernel
theorem dX6_findOnce_59 : decode cX6_findOnce 59 = .ok (.iload_n 2, 1) := by decide +kernel
theorem dX6_findOnce_60 : decode cX6_findOnce 60 = .ok (.iconst 1, 1) := by decide +kernel
theorem dX6_findOnce_61 : decode cX6_findOnce 61 = .ok (.iadd, 1) := by decide +kernel
theorem dX6_findOnce_62 : decode cX6_findOnce 62 = .ok (.istore_n 3, 1) := by decide +kernel
theorem dX6_findOnce_63 : decode cX6_findOnce 63 = .ok (.iload_n 3, 1) := by decide +kernel
theorem dX6_findOnce_64 : decode cX6_findOnce 64 = .ok (.aload_n 0, 1) := by decide +kernel
theorem dX6_findOnce_65 : decode cX6_findOnce 65 = .ok (.getfield 9, 3) := by decide +kernel
theorem dX6_findOnce_68 : decode cX6_findOnce 68 = .ok (.getfield 44, 3) := by decide +kernel
theorem dX6_findOnce_71 : decode cX6_findOnce 71 = .ok (.if_icmp .ge 40, 3) := by decide +kernel
theorem dX6_findOnce_74 : decode cX6_findOnce 74 = .ok (.aload_n 0, 1) := by decide +kernel
theorem dX6_findOnce_75 : decode cX6_findOnce 75 = .ok (.aload_n 0, 1) := by decide +kernel
theorem dX6_findOnce_76 : decode cX6_findOnce 76 = .ok (.getfield 9, 3) := by decide +kernel
theorem dX6_findOnce_79 : decode cX6_findOnce 79 = .ok (.getfield 45, 3) := by decide +kernel
theorem dX6_findOnce_82 : decode cX6_findOnce 82 = .ok (.iload_n 1, 1) := by decide +kernel
theorem dX6_findOnce_83 : decode cX6_findOnce 83 = .ok (.iaload, 1) := by decide +kernel
theorem dX6_findOnce_84 : decode cX6_findOnce 84 = .ok (.aload_n 0, 1) := by decide +kernel
theorem dX6_findOnce_85 : decode cX6_findOnce 85 = .ok (.getfield 9, 3) := by decide +kernel
theorem dX6_findOnce_88 : decode cX6_findOnce 88 = .ok (.getfield 45, 3) := by decide +kernel
theorem dX6_findOnce_91 : decode cX6_findOnce 91 = .ok (.iload_n 2, 1) := by decide +kernel
theorem dX6_findOnce_92 : decode cX6_findOnce 92 = .ok (.iaload, 1) := by decide +kernel
theorem dX6_findOnce_93 : decode cX6_findOnce 93 = .ok (.aload_n 0, 1) := by decide +kernel
theorem dX6_findOnce_94 : decode cX6_findOnce 94 = .ok (.getfield 9, 3) := by decide +kernel
theorem dX6_findOnce_97 : decode cX6_findOnce 97 = .ok (.getfield 45, 3) := by decide +kernel
theorem dX6_findOnce_100 : decode cX6_findOnce 100 = .ok (.iload_n 3, 1) := by decide +kernel
theorem dX6_findOnce_101 : decode cX6_findOnce 101 = .ok (.iaload, 1) := by decide +kernel
theorem dX6_findOnce_102 : decode cX6_findOnce 102 = .ok (.invokevirtual 48, 3) := by decide +kernel
theorem dX6_findOnce_105 : decode cX6_findOnce 105 = .ok (.iinc 3 1, 3) := by decide +kernel
theorem dX6_findOnce_108 : decode cX6_findOnce 108 = .ok (.goto (-45), 3) := by decide +kernel
theorem dX6_findOnce_111 : decode cX6_findOnce 111 = .ok (.iinc 2 1, 3) := by decide +kernel
theorem dX6_findOnce_114 : decode cX6_findOnce 114 = .ok (.goto (-66), 3) := by decide +kernel
theorem dX6_findOnce_117 : decode cX6_findOnce 117 = .ok (.iinc 1 1, 3) := by decide +kernel
theorem dX6_findOnce_120 : decode cX6_findOnce 120 = .ok (.goto (-87), 3) := by decide +kernel
theorem dX6_findOnce_123 : decode cX6_findOnce 123 = .ok (.return_, 1) := by decide +kernel
theorem dX6_tell_0 : decode cX6_tell 0 = .ok (.iload_n 1, 1) := by decide +kernel
theorem dX6_tell_1 : decode cX6_tell 1 = .ok (.ifCond .lt 11, 3) := by decide +kernel
theorem dX6_tell_4 : decode cX6_tell 4 = .ok (.iload_n 1, 1) := by decide +kernel
theorem dX6_tell_5 : decode cX6_tell 5 = .ok (.aload_n 0, 1) := by decide +kernel
theorem dX6_tell_6 : decode cX6_tell 6 = .ok (.getfield 41, 3) := by decide +kernel
theorem dX6_tell_9 : decode cX6_tell 9 = .ok (.if_icmp .lt 7, 3) := by decide +kernel
theorem dX6_tell_12 : decode cX6_tell 12 = .ok (.ldc2_w 52, 3) := by decide +kernel
theorem dX6_tell_15 : decode cX6_tell 15 = .ok (.lreturn, 1) := by decide +kernel
theorem dX6_tell_16 : decode cX6_tell 16 = .ok (.aload_n 0, 1) := by decide +kernel
theorem dX6_tell_17 : decode cX6_tell 17 = .ok (.getfield 9, 3) := by decide +kernel
theorem dX6_tell_20 : decode cX6_tell 20 = .ok (.getfield 54, 3) := by decide +kernel
theorem dX6_tell_23 : decode cX6_tell 23 = .ok (.aload_n 0, 1) := by decide +kernel
theorem dX6_tell_24 : decode cX6_tell 24 = .ok (.getfield 23, 3) := by decide +kernel
theorem dX6_tell_27 : decode cX6_tell 27 = .ok (.iload_n 1, 1) := by decide +kernel
theorem dX6_tell_28 : decode cX6_tell 28 = .ok (.iaload, 1) := by decide +kernel
theorem dX6_tell_29 : decode cX6_tell 29 = .ok (.iaload, 1) := by decide +kernel
theorem dX6_tell_30 : decode cX6_tell 30 = .ok (.i2l, 1) := by decide +kernel
theorem dX6_tell_31 : decode cX6_tell 31 = .ok (.aload_n 0, 1) := by decide +kernel
theorem dX6_tell_32 : decode cX6_tell 32 = .ok (.getfield 33, 3) := by decide +kernel
theorem dX6_tell_35 : decode cX6_tell 35 = .ok (.iload_n 1, 1) := by decide +kernel
theorem dX6_tell_36 : decode cX6_tell 36 = .ok (.laload, 1) := by decide +kernel
theorem dX6_tell_37 : decode cX6_tell 37 = .ok (.lmul, 1) := by decide +kernel
theorem dX6_tell_38 : decode cX6_tell 38 = .ok (.aload_n 0, 1) := by decide +kernel
theorem dX6_tell_39 : decode cX6_tell 39 = .ok (.getfield 26, 3) := by decide +kernel
theorem dX6_tell_42 : decode cX6_tell 42 = .ok (.iload_n 1, 1) := by decide +kernel
theorem dX6_tell_43 : decode cX6_tell 43 = .ok (.laload, 1) := by decide +kernel
theorem dX6_tell_44 : decode cX6_tell 44 = .ok (.ladd, 1) := by decide +kernel
theorem dX6_tell_45 : decode cX6_tell 45 = .ok (.lstore_n 3, 1) := by decide +kernel
theorem dX6_tell_46 : decode cX6_tell 46 = .ok (.aload_n 0, 1) := by decide +kernel
theorem dX6_tell_47 : decode cX6_tell 47 = .ok (.getfield 9, 3) := by decide +kernel
theorem dX6_tell_50 : decode cX6_tell 50 = .ok (.getfield 57, 3) := by decide +kernel
theorem dX6_tell_53 : decode cX6_tell 53 = .ok (.aload_n 0, 1) := by decide +kernel
theorem dX6_tell_54 : decode cX6_tell 54 = .ok (.getfield 23, 3) := by decide +kernel
theorem dX6_tell_57 : decode cX6_tell 57 = .ok (.iload_n 1, 1) := by decide +kernel
theorem dX6_tell_58 : decode cX6_tell 58 = .ok (.iaload, 1) := by decide +kernel
theorem dX6_tell_59 : decode cX6_tell 59 = .ok (.iaload, 1) := by decide +kernel
theorem dX6_tell_60 : decode cX6_tell 60 = .ok (.i2l, 1) := by decide +kernel
theorem dX6_tell_61 : decode cX6_tell 61 = .ok (.aload_n 0, 1) := by decide +kernel
theorem dX6_tell_62 : decode cX6_tell 62 = .ok (.getfield 33, 3) := by decide +kernel
theorem dX6_tell_65 : decode cX6_tell 65 = .ok (.iload_n 1, 1) := by decide +kernel
theorem dX6_tell_66 : decode cX6_tell 66 = .ok (.laload, 1) := by decide +kernel
theorem dX6_tell_67 : decode cX6_tell 67 = .ok (.lmul, 1) := by decide +kernel
theorem dX6_tell_68 : decode cX6_tell 68 = .ok (.aload_n 0, 1) := by decide +kernel
theorem dX6_tell_69 : decode cX6_tell 69 = .ok (.getfield 30, 3) := by decide +kernel
theorem dX6_tell_72 : decode cX6_tell 72 = .ok (.iload_n 1, 1) := by decide +kernel
theorem dX6_tell_73 : decode cX6_tell 73 = .ok (.laload, 1) := by decide +kernel
theorem dX6_tell_74 : decode cX6_tell 74 = .ok (.ladd, 1) := by decide +kernel
theorem dX6_tell_75 : decode cX6_tell 75 = .ok (.lstore 5, 2) := by decide +kernel
theorem dX6_tell_77 : decode cX6_tell 77 = .ok (.aload_n 0, 1) := by decide +kernel
theorem dX6_tell_78 : decode cX6_tell 78 = .ok (.getfield 26, 3) := by decide +kernel
theorem dX6_tell_81 : decode cX6_tell 81 = .ok (.iload_n 1, 1) := by decide +kernel
theorem dX6_tell_82 : decode cX6_tell 82 = .ok (.laload, 1) := by decide +kernel
theorem dX6_tell_83 : decode cX6_tell 83 = .ok (.aload_n 0, 1) := by decide +kernel
theorem dX6_tell_84 : decode cX6_tell 84 = .ok (.getfield 26, 3) := by decide +kernel
theorem dX6_tell_87 : decode cX6_tell 87 = .ok (.iload_n 1, 1) := by decide +kernel
theorem dX6_tell_88 : decode cX6_tell 88 = .ok (.laload, 1) := by decide +kernel
theorem dX6_tell_89 : decode cX6_tell 89 = .ok (.lmul, 1) := by decide +kernel
theorem dX6_tell_90 : decode cX6_tell 90 = .ok (.aload_n 0, 1) := by decide +kernel
theorem dX6_tell_91 : decode cX6_tell 91 = .ok (.getfield 30, 3) := by decide +kernel
theorem dX6_tell_94 : decode cX6_tell 94 = .ok (.iload_n 1, 1) := by decide +kernel
theorem dX6_tell_95 : decode cX6_tell 95 = .ok (.laload, 1) := by decide +kernel
theorem dX6_tell_96 : decode cX6_tell 96 = .ok (.aload_n 0, 1) := by decide +kernel
theorem dX6_tell_97 : decode cX6_tell 97 = .ok (.getfield 30, 3) := by decide +kernel
theorem dX6_tell_100 : decode cX6_tell 100 = .ok (.iload_n 1, 1) := by decide +kernel
theorem dX6_tell_101 : decode cX6_tell 101 = .ok (.laload, 1) := by decide +kernel
theorem dX6_tell_102 : decode cX6_tell 102 = .ok (.lmul, 1) := by decide +kernel
theorem dX6_tell_103 : decode cX6_tell 103 = .ok (.ladd, 1) := by decide +kernel
theorem dX6_tell_104 : decode cX6_tell 104 = .ok (.lstore 7, 2) := by decide +kernel
theorem dX6_tell_106 : decode cX6_tell 106 = .ok (.iload_n 2, 1) := by decide +kernel
theorem dX6_tell_107 : decode cX6_tell 107 = .ok (.iconst 4, 1) := by decide +kernel
theorem dX6_tell_108 : decode cX6_tell 108 = .ok (.if_icmp .eq 8, 3) := by decide +kernel
theorem dX6_tell_111 : decode cX6_tell 111 = .ok (.iload_n 2, 1) := by decide +kernel
theorem dX6_tell_112 : decode cX6_tell 112 = .ok (.iconst 5, 1) := by decide +kernel
theorem dX6_tell_113 : decode cX6_tell 113 = .ok (.if_icmp .ne 7, 3) := by decide +kernel
theorem dX6_tell_116 : decode cX6_tell 116 = .ok (.iconst 1, 1) := by decide +kernel
theorem dX6_tell_117 : decode cX6_tell 117 = .ok (.goto 4, 3) := by decide +kernel
theorem dX6_tell_120 : decode cX6_tell 120 = .ok (.iconst 0, 1) := by decide +kernel
theorem dX6_tell_121 : decode cX6_tell 121 = .ok (.istore 9, 2) := by decide +kernel
theorem dX6_tell_123 : decode cX6_tell 123 = .ok (.iload 9, 2) := by decide +kernel
theorem dX6_tell_125 : decode cX6_tell 125 = .ok (.ifCond .eq 25, 3) := by decide +kernel
theorem dX6_tell_128 : decode cX6_tell 128 = .ok (.lload 7, 2) := by decide +kernel
theorem dX6_tell_130 : decode cX6_tell 130 = .ok (.aload_n 0, 1) := by decide +kernel
theorem dX6_tell_131 : decode cX6_tell 131 = .ok (.getfield 33, 3) := by decide +kernel
theorem dX6_tell_134 : decode cX6_tell 134 = .ok (.iload_n 1, 1) := by decide +kernel
theorem dX6_tell_135 : decode cX6_tell 135 = .ok (.laload, 1) := by decide +kernel
theorem dX6_tell_136 : decode cX6_tell 136 = .ok (.aload_n 0, 1) := by decide +kernel
theorem dX6_tell_137 : decode cX6_tell 137 = .ok (.getfield 33, 3) := by decide +kernel
theorem dX6_tell_140 : decode cX6_tell 140 = .ok (.iload_n 1, 1) := by decide +kernel
theorem dX6_tell_141 : decode cX6_tell 141 = .ok (.laload, 1) := by decide +kernel
theorem dX6_tell_142 : decode cX6_tell 142 = .ok (.lmul, 1) := by decide +kernel
theorem dX6_tell_143 : decode cX6_tell 143 = .ok (.iload_n 2, 1) := by decide +kernel
theorem dX6_tell_144 : decode cX6_tell 144 = .ok (.invokestatic 60, 3) := by decide +kernel
theorem dX6_tell_147 : decode cX6_tell 147 = .ok (.goto 16, 3) := by decide +kernel
theorem dX6_tell_150 : decode cX6_tell 150 = .ok (.lload_n 3, 1) := by decide +kernel
theorem dX6_tell_151 : decode cX6_tell 151 = .ok (.lload 5, 2) := by decide +kernel
theorem dX6_tell_153 : decode cX6_tell 153 = .ok (.aload_n 0, 1) := by decide +kernel
theorem dX6_tell_154 : decode cX6_tell 154 = .ok (.getfield 33, 3) := by decide +kernel
theorem dX6_tell_157 : decode cX6_tell 157 = .ok (.iload_n 1, 1) := by decide +kernel
theorem dX6_tell_158 : decode cX6_tell 158 = .ok (.laload, 1) := by decide +kernel
theorem dX6_tell_159 : decode cX6_tell 159 = .ok (.iload_n 2, 1) := by decide +kernel
theorem dX6_tell_160 : decode cX6_tell 160 = .ok (.invokestatic 64, 3) := by decide +kernel
theorem dX6_tell_163 : decode cX6_tell 163 = .ok (.lreturn, 1) := by decide +kernel
theorem dX6_look_0 : decode cX6_look 0 = .ok (.aload_n 0, 1) := by decide +kernel
theorem dX6_look_1 : decode cX6_look 1 = .ok (.iload_n 1, 1) := by decide +kernel
theorem dX6_look_2 : decode cX6_look 2 = .ok (.iload_n 2, 1) := by decide +kernel
theorem dX6_look_3 : decode cX6_look 3 = .ok (.iload_n 3, 1) := by decide +kernel
theorem dX6_look_4 : decode cX6_look 4 = .ok (.invokevirtual 68, 3) := by decide +kernel
theorem dX6_look_7 : decode cX6_look 7 = .ok (.ifCond .ne 4, 3) := by decide +kernel
theorem dX6_look_10 : decode cX6_look 10 = .ok (.return_, 1) := by decide +kernel
theorem dX6_look_11 : decode cX6_look 11 = .ok (.aload_n 0, 1) := by decide +kernel
theorem dX6_look_12 : decode cX6_look 12 = .ok (.iload_n 1, 1) := by decide +kernel
theorem dX6_look_13 : decode cX6_look 13 = .ok (.iload_n 2, 1) := by decide +kernel
theorem dX6_look_14 : decode cX6_look 14 = .ok (.iload_n 3, 1) := by decide +kernel
theorem dX6_look_15 : decode cX6_look 15 = .ok (.invokevirtual 72, 3) := by decide +kernel
theorem dX6_look_18 : decode cX6_look 18 = .ok (.istore 4, 2) := by decide +kernel
theorem dX6_look_20 : decode cX6_look 20 = .ok (.iload 4, 2) := by decide +kernel
theorem dX6_look_22 : decode cX6_look 22 = .ok (.ifCond .eq 82, 3) := by decide +kernel
theorem dX6_look_25 : decode cX6_look 25 = .ok (.aload_n 0, 1) := by decide +kernel
theorem dX6_look_26 : decode cX6_look 26 = .ok (.getfield 41, 3) := by decide +kernel
theorem dX6_look_29 : decode cX6_look 29 = .ok (.bipush 48, 2) := by decide +kernel
theorem dX6_look_31 : decode cX6_look 31 = .ok (.if_icmp .ge 73, 3) := by decide +kernel
theorem dX6_look_34 : decode cX6_look 34 = .ok (.aload_n 0, 1) := by decide +kernel
theorem dX6_look_35 : decode cX6_look 35 = .ok (.getfield 19, 3) := by decide +kernel
theorem dX6_look_38 : decode cX6_look 38 = .ok (.aload_n 0, 1) := by decide +kernel
theorem dX6_look_39 : decode cX6_look 39 = .ok (.getfield 41, 3) := by decide +kernel
theorem dX6_look_42 : decode cX6_look 42 = .ok (.iload 4, 2) := by decide +kernel
theorem dX6_look_44 : decode cX6_look 44 = .ok (.iastore, 1) := by decide +kernel
theorem dX6_look_45 : decode cX6_look 45 = .ok (.aload_n 0, 1) := by decide +kernel
theorem dX6_look_46 : decode cX6_look 46 = .ok (.getfield 23, 3) := by decide +kernel
theorem dX6_look_49 : decode cX6_look 49 = .ok (.aload_n 0, 1) := by decide +kernel
theorem dX6_look_50 : decode cX6_look 50 = .ok (.getfield 41, 3) := by decide +kernel
theorem dX6_look_53 : decode cX6_look 53 = .ok (.iload_n 1, 1) := by decide +kernel
theorem dX6_look_54 : decode cX6_look 54 = .ok (.iastore, 1) := by decide +kernel
theorem dX6_look_55 : decode cX6_look 55 = .ok (.aload_n 0, 1) := by decide +kernel
theorem dX6_look_56 : decode cX6_look 56 = .ok (.getfield 26, 3) := by decide +kernel
theorem dX6_look_59 : decode cX6_look 59 = .ok (.aload_n 0, 1) := by decide +kernel
theorem dX6_look_60 : decode cX6_look 60 = .ok (.getfield 41, 3) := by decide +kernel
theorem dX6_look_63 : decode cX6_look 63 = .ok (.aload_n 0, 1) := by decide +kernel
theorem dX6_look_64 : decode cX6_look 64 = .ok (.getfield 76, 3) := by decide +kernel
theorem dX6_look_67 : decode cX6_look 67 = .ok (.lastore, 1) := by decide +kernel
theorem dX6_look_68 : decode cX6_look 68 = .ok (.aload_n 0, 1) := by decide +kernel
theorem dX6_look_69 : decode cX6_look 69 = .ok (.getfield 30, 3) := by decide +kernel
theorem dX6_look_72 : decode cX6_look 72 = .ok (.aload_n 0, 1) := by decide +kernel
theorem dX6_look_73 : decode cX6_look 73 = .ok (.getfield 41, 3) := by decide +kernel
theorem dX6_look_76 : decode cX6_look 76 = .ok (.aload_n 0, 1) := by decide +kernel
theorem dX6_look_77 : decode cX6_look 77 = .ok (.getfield 80, 3) := by decide +kernel
theorem dX6_look_80 : decode cX6_look 80 = .ok (.lastore, 1) := by decide +kernel
theorem dX6_look_81 : decode cX6_look 81 = .ok (.aload_n 0, 1) := by decide +kernel
theorem dX6_look_82 : decode cX6_look 82 = .ok (.getfield 33, 3) := by decide +kernel
theorem dX6_look_85 : decode cX6_look 85 = .ok (.aload_n 0, 1) := by decide +kernel
theorem dX6_look_86 : decode cX6_look 86 = .ok (.getfield 41, 3) := by decide +kernel
theorem dX6_look_89 : decode cX6_look 89 = .ok (.aload_n 0, 1) := by decide +kernel
theorem dX6_look_90 : decode cX6_look 90 = .ok (.getfield 83, 3) := by decide +kernel
theorem dX6_look_93 : decode cX6_look 93 = .ok (.lastore, 1) := by decide +kernel
theorem dX6_look_94 : decode cX6_look 94 = .ok (.aload_n 0, 1) := by decide +kernel
theorem dX6_look_95 : decode cX6_look 95 = .ok (.dup, 1) := by decide +kernel
theorem dX6_look_96 : decode cX6_look 96 = .ok (.getfield 41, 3) := by decide +kernel
theorem dX6_look_99 : decode cX6_look 99 = .ok (.iconst 1, 1) := by decide +kernel
theorem dX6_look_100 : decode cX6_look 100 = .ok (.iadd, 1) := by decide +kernel
theorem dX6_look_101 : decode cX6_look 101 = .ok (.putfield 41, 3) := by decide +kernel
theorem dX6_look_104 : decode cX6_look 104 = .ok (.return_, 1) := by decide +kernel
theorem dX6_setRound_0 : decode cX6_setRound 0 = .ok (.aload_n 0, 1) := by decide +kernel
theorem dX6_setRound_1 : decode cX6_setRound 1 = .ok (.getfield 9, 3) := by decide +kernel
theorem dX6_setRound_4 : decode cX6_setRound 4 = .ok (.iload_n 1, 1) := by decide +kernel
theorem dX6_setRound_5 : decode cX6_setRound 5 = .ok (.iload_n 2, 1) := by decide +kernel
theorem dX6_setRound_6 : decode cX6_setRound 6 = .ok (.iload_n 3, 1) := by decide +kernel
theorem dX6_setRound_7 : decode cX6_setRound 7 = .ok (.invokevirtual 86, 3) := by decide +kernel
theorem dX6_setRound_10 : decode cX6_setRound 10 = .ok (.i2l, 1) := by decide +kernel
theorem dX6_setRound_11 : decode cX6_setRound 11 = .ok (.lstore 4, 2) := by decide +kernel
theorem dX6_setRound_13 : decode cX6_setRound 13 = .ok (.lload 4, 2) := by decide +kernel
theorem dX6_setRound_15 : decode cX6_setRound 15 = .ok (.lconst 0, 1) := by decide +kernel
theorem dX6_setRound_16 : decode cX6_setRound 16 = .ok (.lcmp, 1) := by decide +kernel
theorem dX6_setRound_17 : decode cX6_setRound 17 = .ok (.ifCond .ge 17, 3) := by decide +kernel
theorem dX6_setRound_20 : decode cX6_setRound 20 = .ok (.aload_n 0, 1) := by decide +kernel
theorem dX6_setRound_21 : decode cX6_setRound 21 = .ok (.getfield 9, 3) := by decide +kernel
theorem dX6_setRound_24 : decode cX6_setRound 24 = .ok (.iload_n 1, 1) := by decide +kernel
theorem dX6_setRound_25 : decode cX6_setRound 25 = .ok (.iload_n 2, 1) := by decide +kernel
theorem dX6_setRound_26 : decode cX6_setRound 26 = .ok (.invokevirtual 89, 3) := by decide +kernel
theorem dX6_setRound_29 : decode cX6_setRound 29 = .ok (.ineg, 1) := by decide +kernel
theorem dX6_setRound_30 : decode cX6_setRound 30 = .ok (.i2l, 1) := by decide +kernel
theorem dX6_setRound_31 : decode cX6_setRound 31 = .ok (.goto 13, 3) := by decide +kernel
theorem dX6_setRound_34 : decode cX6_setRound 34 = .ok (.aload_n 0, 1) := by decide +kernel
theorem dX6_setRound_35 : decode cX6_setRound 35 = .ok (.getfield 9, 3) := by decide +kernel
theorem dX6_setRound_38 : decode cX6_setRound 38 = .ok (.iload_n 1, 1) := by decide +kernel
theorem dX6_setRound_39 : decode cX6_setRound 39 = .ok (.iload_n 2, 1) := by decide +kernel
theorem dX6_setRound_40 : decode cX6_setRound 40 = .ok (.invokevirtual 89, 3) := by decide +kernel
theorem dX6_setRound_43 : decode cX6_setRound 43 = .ok (.i2l, 1) := by decide +kernel
theorem dX6_setRound_44 : decode cX6_setRound 44 = .ok (.lstore 6, 2) := by decide +kernel
theorem dX6_setRound_46 : decode cX6_setRound 46 = .ok (.lload 4, 2) := by decide +kernel
theorem dX6_setRound_48 : decode cX6_setRound 48 = .ok (.lconst 0, 1) := by decide +kernel
theorem dX6_setRound_49 : decode cX6_setRound 49 = .ok (.lcmp, 1) := by decide +kernel
theorem dX6_setRound_50 : decode cX6_setRound 50 = .ok (.ifCond .ge 17, 3) := by decide +kernel
theorem dX6_setRound_53 : decode cX6_setRound 53 = .ok (.aload_n 0, 1) := by decide +kernel
theorem dX6_setRound_54 : decode cX6_setRound 54 = .ok (.getfield 9, 3) := by decide +kernel
theorem dX6_setRound_57 : decode cX6_setRound 57 = .ok (.iload_n 1, 1) := by decide +kernel
theorem dX6_setRound_58 : decode cX6_setRound 58 = .ok (.iload_n 3, 1) := by decide +kernel
theorem dX6_setRound_59 : decode cX6_setRound 59 = .ok (.invokevirtual 89, 3) := by decide +kernel
theorem dX6_setRound_62 : decode cX6_setRound 62 = .ok (.ineg, 1) := by decide +kernel
theorem dX6_setRound_63 : decode cX6_setRound 63 = .ok (.i2l, 1) := by decide +kernel
theorem dX6_setRound_64 : decode cX6_setRound 64 = .ok (.goto 13, 3) := by decide +kernel
theorem dX6_setRound_67 : decode cX6_setRound 67 = .ok (.aload_n 0, 1) := by decide +kernel
theorem dX6_setRound_68 : decode cX6_setRound 68 = .ok (.getfield 9, 3) := by decide +kernel
theorem dX6_setRound_71 : decode cX6_setRound 71 = .ok (.iload_n 1, 1) := by decide +kernel
theorem dX6_setRound_72 : decode cX6_setRound 72 = .ok (.iload_n 3, 1) := by decide +kernel
theorem dX6_setRound_73 : decode cX6_setRound 73 = .ok (.invokevirtual 89, 3) := by decide +kernel
theorem dX6_setRound_76 : decode cX6_setRound 76 = .ok (.i2l, 1) := by decide +kernel
theorem dX6_setRound_77 : decode cX6_setRound 77 = .ok (.lstore 8, 2) := by decide +kernel
theorem dX6_setRound_79 : decode cX6_setRound 79 = .ok (.aload_n 0, 1) := by decide +kernel
theorem dX6_setRound_80 : decode cX6_setRound 80 = .ok (.ldc2_w 93, 3) := by decide +kernel
theorem dX6_setRound_83 : decode cX6_setRound 83 = .ok (.lload 4, 2) := by decide +kernel
theorem dX6_setRound_85 : decode cX6_setRound 85 = .ok (.invokestatic 95, 3) := by decide +kernel
theorem dX6_setRound_88 : decode cX6_setRound 88 = .ok (.lmul, 1) := by decide +kernel
theorem dX6_setRound_89 : decode cX6_setRound 89 = .ok (.putfield 83, 3) := by decide +kernel
theorem dX6_setRound_92 : decode cX6_setRound 92 = .ok (.aload_n 0, 1) := by decide +kernel
theorem dX6_setRound_93 : decode cX6_setRound 93 = .ok (.aload_n 0, 1) := by decide +kernel
theorem dX6_setRound_94 : decode cX6_setRound 94 = .ok (.getfield 9, 3) := by decide +kernel
theorem dX6_setRound_97 : decode cX6_setRound 97 = .ok (.getfield 57, 3) := by decide +kernel
theorem dX6_setRound_100 : decode cX6_setRound 100 = .ok (.iload_n 3, 1) := by decide +kernel
theorem dX6_setRound_101 : decode cX6_setRound 101 = .ok (.iaload, 1) := by decide +kernel
theorem dX6_setRound_102 : decode cX6_setRound 102 = .ok (.aload_n 0, 1) := by decide +kernel
theorem dX6_setRound_103 : decode cX6_setRound 103 = .ok (.getfield 9, 3) := by decide +kernel
theorem dX6_setRound_106 : decode cX6_setRound 106 = .ok (.getfield 57, 3) := by decide +kernel
theorem dX6_setRound_109 : decode cX6_setRound 109 = .ok (.iload_n 1, 1) := by decide +kernel
theorem dX6_setRound_110 : decode cX6_setRound 110 = .ok (.iaload, 1) := by decide +kernel
theorem dX6_setRound_111 : decode cX6_setRound 111 = .ok (.isub, 1) := by decide +kernel
theorem dX6_setRound_112 : decode cX6_setRound 112 = .ok (.i2l, 1) := by decide +kernel
theorem dX6_setRound_113 : decode cX6_setRound 113 = .ok (.lload 6, 2) := by decide +kernel
theorem dX6_setRound_115 : decode cX6_setRound 115 = .ok (.lmul, 1) := by decide +kernel
theorem dX6_setRound_116 : decode cX6_setRound 116 = .ok (.aload_n 0, 1) := by decide +kernel
theorem dX6_setRound_117 : decode cX6_setRound 117 = .ok (.getfield 9, 3) := by decide +kernel
theorem dX6_setRound_120 : decode cX6_setRound 120 = .ok (.getfield 57, 3) := by decide +kernel
theorem dX6_setRound_123 : decode cX6_setRound 123 = .ok (.iload_n 2, 1) := by decide +kernel
theorem dX6_setRound_124 : decode cX6_setRound 124 = .ok (.iaload, 1) := by decide +kernel
theorem dX6_setRound_125 : decode cX6_setRound 125 = .ok (.aload_n 0, 1) := by decide +kernel
theorem dX6_setRound_126 : decode cX6_setRound 126 = .ok (.getfield 9, 3) := by decide +kernel
theorem dX6_setRound_129 : decode cX6_setRound 129 = .ok (.getfield 57, 3) := by decide +kernel
theorem dX6_setRound_132 : decode cX6_setRound 132 = .ok (.iload_n 1, 1) := by decide +kernel
theorem dX6_setRound_133 : decode cX6_setRound 133 = .ok (.iaload, 1) := by decide +kernel
theorem dX6_setRound_134 : decode cX6_setRound 134 = .ok (.isub, 1) := by decide +kernel
theorem dX6_setRound_135 : decode cX6_setRound 135 = .ok (.i2l, 1) := by decide +kernel
theorem dX6_setRound_136 : decode cX6_setRound 136 = .ok (.lload 8, 2) := by decide +kernel
theorem dX6_setRound_138 : decode cX6_setRound 138 = .ok (.lmul, 1) := by decide +kernel
theorem dX6_setRound_139 : decode cX6_setRound 139 = .ok (.lsub, 1) := by decide +kernel
theorem dX6_setRound_140 : decode cX6_setRound 140 = .ok (.putfield 76, 3) := by decide +kernel
theorem dX6_setRound_143 : decode cX6_setRound 143 = .ok (.aload_n 0, 1) := by decide +kernel
theorem dX6_setRound_144 : decode cX6_setRound 144 = .ok (.aload_n 0, 1) := by decide +kernel
theorem dX6_setRound_145 : decode cX6_setRound 145 = .ok (.getfield 9, 3) := by decide +kernel
theorem dX6_setRound_148 : decode cX6_setRound 148 = .ok (.getfield 54, 3) := by decide +kernel
theorem dX6_setRound_151 : decode cX6_setRound 151 = .ok (.iload_n 2, 1) := by decide +kernel
theorem dX6_setRound_152 : decode cX6_setRound 152 = .ok (.iaload, 1) := by decide +kernel
theorem dX6_setRound_153 : decode cX6_setRound 153 = .ok (.aload_n 0, 1) := by decide +kernel
theorem dX6_setRound_154 : decode cX6_setRound 154 = .ok (.getfield 9, 3) := by decide +kernel
theorem dX6_setRound_157 : decode cX6_setRound 157 = .ok (.getfield 54, 3) := by decide +kernel
theorem dX6_setRound_160 : decode cX6_setRound 160 = .ok (.iload_n 1, 1) := by decide +kernel
theorem dX6_setRound_161 : decode cX6_setRound 161 = .ok (.iaload, 1) := by decide +kernel
theorem dX6_setRound_162 : decode cX6_setRound 162 = .ok (.isub, 1) := by decide +kernel
theorem dX6_setRound_163 : decode cX6_setRound 163 = .ok (.i2l, 1) := by decide +kernel
theorem dX6_setRound_164 : decode cX6_setRound 164 = .ok (.lload 8, 2) := by decide +kernel
theorem dX6_setRound_166 : decode cX6_setRound 166 = .ok (.lmul, 1) := by decide +kernel
theorem dX6_setRound_167 : decode cX6_setRound 167 = .ok (.aload_n 0, 1) := by decide +kernel
theorem dX6_setRound_168 : decode cX6_setRound 168 = .ok (.getfield 9, 3) := by decide +kernel
theorem dX6_setRound_171 : decode cX6_setRound 171 = .ok (.getfield 54, 3) := by decide +kernel
theorem dX6_setRound_174 : decode cX6_setRound 174 = .ok (.iload_n 3, 1) := by decide +kernel
theorem dX6_setRound_175 : decode cX6_setRound 175 = .ok (.iaload, 1) := by decide +kernel
theorem dX6_setRound_176 : decode cX6_setRound 176 = .ok (.aload_n 0, 1) := by decide +kernel
theorem dX6_setRound_177 : decode cX6_setRound 177 = .ok (.getfield 9, 3) := by decide +kernel
theorem dX6_setRound_180 : decode cX6_setRound 180 = .ok (.getfield 54, 3) := by decide +kernel
theorem dX6_setRound_183 : decode cX6_setRound 183 = .ok (.iload_n 1, 1) := by decide +kernel
theorem dX6_setRound_184 : decode cX6_setRound 184 = .ok (.iaload, 1) := by decide +kernel
theorem dX6_setRound_185 : decode cX6_setRound 185 = .ok (.isub, 1) := by decide +kernel
theorem dX6_setRound_186 : decode cX6_setRound 186 = .ok (.i2l, 1) := by decide +kernel
theorem dX6_setRound_187 : decode cX6_setRound 187 = .ok (.lload 6, 2) := by decide +kernel
theorem dX6_setRound_189 : decode cX6_setRound 189 = .ok (.lmul, 1) := by decide +kernel
theorem dX6_setRound_190 : decode cX6_setRound 190 = .ok (.lsub, 1) := by decide +kernel
theorem dX6_setRound_191 : decode cX6_setRound 191 = .ok (.putfield 80, 3) := by decide +kernel
theorem dX6_setRound_194 : decode cX6_setRound 194 = .ok (.lload 4, 2) := by decide +kernel
theorem dX6_setRound_196 : decode cX6_setRound 196 = .ok (.lconst 0, 1) := by decide +kernel
theorem dX6_setRound_197 : decode cX6_setRound 197 = .ok (.lcmp, 1) := by decide +kernel
theorem dX6_setRound_198 : decode cX6_setRound 198 = .ok (.ifCond .eq 7, 3) := by decide +kernel
theorem dX6_setRound_201 : decode cX6_setRound 201 = .ok (.iconst 1, 1) := by decide +kernel
theorem dX6_setRound_202 : decode cX6_setRound 202 = .ok (.goto 4, 3) := by decide +kernel
theorem dX6_setRound_205 : decode cX6_setRound 205 = .ok (.iconst 0, 1) := by decide +kernel
theorem dX6_setRound_206 : decode cX6_setRound 206 = .ok (.ireturn, 1) := by decide +kernel
theorem dX6_ringFrom_0 : decode cX6_ringFrom 0 = .ok (.iconst 0, 1) := by decide +kernel
theorem dX6_ringFrom_1 : decode cX6_ringFrom 1 = .ok (.istore 4, 2) := by decide +kernel
theorem dX6_ringFrom_3 : decode cX6_ringFrom 3 = .ok (.iconst 0, 1) := by decide +kernel
theorem dX6_ringFrom_4 : decode cX6_ringFrom 4 = .ok (.istore 5, 2) := by decide +kernel
theorem dX6_ringFrom_6 : decode cX6_ringFrom 6 = .ok (.iload 5, 2) := by decide +kernel
theorem dX6_ringFrom_8 : decode cX6_ringFrom 8 = .ok (.aload_n 0, 1) := by decide +kernel
theorem dX6_ringFrom_9 : decode cX6_ringFrom 9 = .ok (.getfield 9, 3) := by decide +kernel
theorem dX6_ringFrom_12 : decode cX6_ringFrom 12 = .ok (.getfield 44, 3) := by decide +kernel
theorem dX6_ringFrom_15 : decode cX6_ringFrom 15 = .ok (.if_icmp .ge 80, 3) := by decide +kernel
theorem dX6_ringFrom_18 : decode cX6_ringFrom 18 = .ok (.aload_n 0, 1) := by decide +kernel
theorem dX6_ringFrom_19 : decode cX6_ringFrom 19 = .ok (.getfield 9, 3) := by decide +kernel
theorem dX6_ringFrom_22 : decode cX6_ringFrom 22 = .ok (.getfield 45, 3) := by decide +kernel
theorem dX6_ringFrom_25 : decode cX6_ringFrom 25 = .ok (.iload 5, 2) := by decide +kernel
theorem dX6_ringFrom_27 : decode cX6_ringFrom 27 = .ok (.iaload, 1) := by decide +kernel
theorem dX6_ringFrom_28 : decode cX6_ringFrom 28 = .ok (.istore 6, 2) := by decide +kernel
theorem dX6_ringFrom_30 : decode cX6_ringFrom 30 = .ok (.aload_n 0, 1) := by decide +kernel
theorem dX6_ringFrom_31 : decode cX6_ringFrom 31 = .ok (.iload_n 1, 1) := by decide +kernel
theorem dX6_ringFrom_32 : decode cX6_ringFrom 32 = .ok (.iload 6, 2) := by decide +kernel
theorem dX6_ringFrom_34 : decode cX6_ringFrom 34 = .ok (.invokevirtual 101, 3) := by decide +kernel
theorem dX6_ringFrom_37 : decode cX6_ringFrom 37 = .ok (.lstore 7, 2) := by decide +kernel
theorem dX6_ringFrom_39 : decode cX6_ringFrom 39 = .ok (.lload 7, 2) := by decide +kernel
theorem dX6_ringFrom_41 : decode cX6_ringFrom 41 = .ok (.lconst 0, 1) := by decide +kernel
theorem dX6_ringFrom_42 : decode cX6_ringFrom 42 = .ok (.lcmp, 1) := by decide +kernel
theorem dX6_ringFrom_43 : decode cX6_ringFrom 43 = .ok (.ifCond .lt 28, 3) := by decide +kernel
theorem dX6_ringFrom_46 : decode cX6_ringFrom 46 = .ok (.lload 7, 2) := by decide +kernel
theorem dX6_ringFrom_48 : decode cX6_ringFrom 48 = .ok (.lconst 0, 1) := by decide +kernel
theorem dX6_ringFrom_49 : decode cX6_ringFrom 49 = .ok (.lcmp, 1) := by decide +kernel
theorem dX6_ringFrom_50 : decode cX6_ringFrom 50 = .ok (.ifCond .ne 23, 3) := by decide +kernel
theorem dX6_ringFrom_53 : decode cX6_ringFrom 53 = .ok (.iload 6, 2) := by decide +kernel
theorem dX6_ringFrom_55 : decode cX6_ringFrom 55 = .ok (.iload_n 3, 1) := by decide +kernel
theorem dX6_ringFrom_56 : decode cX6_ringFrom 56 = .ok (.if_icmp .ge 17, 3) := by decide +kernel
theorem dX6_ringFrom_59 : decode cX6_ringFrom 59 = .ok (.iload 6, 2) := by decide +kernel
theorem dX6_ringFrom_61 : decode cX6_ringFrom 61 = .ok (.iload_n 1, 1) := by decide +kernel
theorem dX6_ringFrom_62 : decode cX6_ringFrom 62 = .ok (.if_icmp .eq 11, 3) := by decide +kernel
theorem dX6_ringFrom_65 : decode cX6_ringFrom 65 = .ok (.iload 6, 2) := by decide +kernel
theorem dX6_ringFrom_67 : decode cX6_ringFrom 67 = .ok (.iload_n 2, 1) := by decide +kernel
theorem dX6_ringFrom_68 : decode cX6_ringFrom 68 = .ok (.if_icmp .eq 5, 3) := by decide +kernel
theorem dX6_ringFrom_71 : decode cX6_ringFrom 71 = .ok (.iconst 0, 1) := by decide +kernel
theorem dX6_ringFrom_72 : decode cX6_ringFrom 72 = .ok (.ireturn, 1) := by decide +kernel
theorem dX6_ringFrom_73 : decode cX6_ringFrom 73 = .ok (.lload 7, 2) := by decide +kernel
theorem dX6_ringFrom_75 : decode cX6_ringFrom 75 = .ok (.lconst 0, 1) := by decide +kernel
theorem dX6_ringFrom_76 : decode cX6_ringFrom 76 = .ok (.lcmp, 1) := by decide +kernel
theorem dX6_ringFrom_77 : decode cX6_ringFrom 77 = .ok (.ifCond .ne 12, 3) := by decide +kernel
theorem dX6_ringFrom_80 : decode cX6_ringFrom 80 = .ok (.iload 4, 2) := by decide +kernel
theorem dX6_ringFrom_82 : decode cX6_ringFrom 82 = .ok (.iconst 1, 1) := by decide +kernel
theorem dX6_ringFrom_83 : decode cX6_ringFrom 83 = .ok (.iload 6, 2) := by decide +kernel
theorem dX6_ringFrom_85 : decode cX6_ringFrom 85 = .ok (.ishl, 1) := by decide +kernel
theorem dX6_ringFrom_86 : decode cX6_ringFrom 86 = .ok (.ior, 1) := by decide +kernel
theorem dX6_ringFrom_87 : decode cX6_ringFrom 87 = .ok (.istore 4, 2) := by decide +kernel
theorem dX6_ringFrom_89 : decode cX6_ringFrom 89 = .ok (.iinc 5 1, 3) := by decide +kernel
theorem dX6_ringFrom_92 : decode cX6_ringFrom 92 = .ok (.goto (-86), 3) := by decide +kernel
theorem dX6_ringFrom_95 : decode cX6_ringFrom 95 = .ok (.iload 4, 2) := by decide +kernel
theorem dX6_ringFrom_97 : decode cX6_ringFrom 97 = .ok (.ireturn, 1) := by decide +kernel
theorem dX6_outsideBy_0 : decode cX6_outsideBy 0 = .ok (.aload_n 0, 1) := by decide +kernel
theorem dX6_outsideBy_1 : decode cX6_outsideBy 1 = .ok (.getfield 9, 3) := by decide +kernel
theorem dX6_outsideBy_4 : decode cX6_outsideBy 4 = .ok (.iload_n 1, 1) := by decide +kernel
theorem dX6_outsideBy_5 : decode cX6_outsideBy 5 = .ok (.iload_n 2, 1) := by decide +kernel
theorem dX6_outsideBy_6 : decode cX6_outsideBy 6 = .ok (.invokevirtual 89, 3) := by decide +kernel
theorem dX6_outsideBy_9 : decode cX6_outsideBy 9 = .ok (.i2l, 1) := by decide +kernel
theorem dX6_outsideBy_10 : decode cX6_outsideBy 10 = .ok (.aload_n 0, 1) := by decide +kernel
theorem dX6_outsideBy_11 : decode cX6_outsideBy 11 = .ok (.getfield 83, 3) := by decide +kernel
theorem dX6_outsideBy_14 : decode cX6_outsideBy 14 = .ok (.lmul, 1) := by decide +kernel
theorem dX6_outsideBy_15 : decode cX6_outsideBy 15 = .ok (.ldc2_w 93, 3) := by decide +kernel
theorem dX6_outsideBy_18 : decode cX6_outsideBy 18 = .ok (.aload_n 0, 1) := by decide +kernel
theorem dX6_outsideBy_19 : decode cX6_outsideBy 19 = .ok (.getfield 9, 3) := by decide +kernel
theorem dX6_outsideBy_22 : decode cX6_outsideBy 22 = .ok (.getfield 54, 3) := by decide +kernel
theorem dX6_outsideBy_25 : decode cX6_outsideBy 25 = .ok (.iload_n 2, 1) := by decide +kernel
theorem dX6_outsideBy_26 : decode cX6_outsideBy 26 = .ok (.iaload, 1) := by decide +kernel
theorem dX6_outsideBy_27 : decode cX6_outsideBy 27 = .ok (.aload_n 0, 1) := by decide +kernel
theorem dX6_outsideBy_28 : decode cX6_outsideBy 28 = .ok (.getfield 9, 3) := by decide +kernel
theorem dX6_outsideBy_31 : decode cX6_outsideBy 31 = .ok (.getfield 54, 3) := by decide +kernel
theorem dX6_outsideBy_34 : decode cX6_outsideBy 34 = .ok (.iload_n 1, 1) := by decide +kernel
theorem dX6_outsideBy_35 : decode cX6_outsideBy 35 = .ok (.iaload, 1) := by decide +kernel
theorem dX6_outsideBy_36 : decode cX6_outsideBy 36 = .ok (.isub, 1) := by decide +kernel
theorem dX6_outsideBy_37 : decode cX6_outsideBy 37 = .ok (.i2l, 1) := by decide +kernel
theorem dX6_outsideBy_38 : decode cX6_outsideBy 38 = .ok (.aload_n 0, 1) := by decide +kernel
theorem dX6_outsideBy_39 : decode cX6_outsideBy 39 = .ok (.getfield 76, 3) := by decide +kernel
theorem dX6_outsideBy_42 : decode cX6_outsideBy 42 = .ok (.lmul, 1) := by decide +kernel
theorem dX6_outsideBy_43 : decode cX6_outsideBy 43 = .ok (.aload_n 0, 1) := by decide +kernel
theorem dX6_outsideBy_44 : decode cX6_outsideBy 44 = .ok (.getfield 9, 3) := by decide +kernel
theorem dX6_outsideBy_47 : decode cX6_outsideBy 47 = .ok (.getfield 57, 3) := by decide +kernel
theorem dX6_outsideBy_50 : decode cX6_outsideBy 50 = .ok (.iload_n 2, 1) := by decide +kernel
theorem dX6_outsideBy_51 : decode cX6_outsideBy 51 = .ok (.iaload, 1) := by decide +kernel
theorem dX6_outsideBy_52 : decode cX6_outsideBy 52 = .ok (.aload_n 0, 1) := by decide +kernel
theorem dX6_outsideBy_53 : decode cX6_outsideBy 53 = .ok (.getfield 9, 3) := by decide +kernel
theorem dX6_outsideBy_56 : decode cX6_outsideBy 56 = .ok (.getfield 57, 3) := by decide +kernel
theorem dX6_outsideBy_59 : decode cX6_outsideBy 59 = .ok (.iload_n 1, 1) := by decide +kernel
theorem dX6_outsideBy_60 : decode cX6_outsideBy 60 = .ok (.iaload, 1) := by decide +kernel
theorem dX6_outsideBy_61 : decode cX6_outsideBy 61 = .ok (.isub, 1) := by decide +kernel
theorem dX6_outsideBy_62 : decode cX6_outsideBy 62 = .ok (.i2l, 1) := by decide +kernel
theorem dX6_outsideBy_63 : decode cX6_outsideBy 63 = .ok (.aload_n 0, 1) := by decide +kernel
theorem dX6_outsideBy_64 : decode cX6_outsideBy 64 = .ok (.getfield 80, 3) := by decide +kernel
theorem dX6_outsideBy_67 : decode cX6_outsideBy 67 = .ok (.lmul, 1) := by decide +kernel
theorem dX6_outsideBy_68 : decode cX6_outsideBy 68 = .ok (.ladd, 1) := by decide +kernel
theorem dX6_outsideBy_69 : decode cX6_outsideBy 69 = .ok (.lmul, 1) := by decide +kernel
theorem dX6_outsideBy_70 : decode cX6_outsideBy 70 = .ok (.lsub, 1) := by decide +kernel
theorem dX6_outsideBy_71 : decode cX6_outsideBy 71 = .ok (.lreturn, 1) := by decide +kernel
theorem dX7_init_0 : decode cX7_init 0 = .ok (.aload_n 0, 1) := by decide +kernel
theorem dX7_init_1 : decode cX7_init 1 = .ok (.invokespecial 3, 3) := by decide +kernel
theorem dX7_init_4 : decode cX7_init 4 = .ok (.aload_n 0, 1) := by decide +kernel
theorem dX7_init_5 : decode cX7_init 5 = .ok (.bipush 8, 2) := by decide +kernel
theorem dX7_init_7 : decode cX7_init 7 = .ok (.newarray .int, 2) := by decide +kernel
theorem dX7_init_9 : decode cX7_init 9 = .ok (.putfield 9, 3) := by decide +kernel
theorem dX7_init_12 : decode cX7_init 12 = .ok (.aload_n 0, 1) := by decide +kernel
theorem dX7_init_13 : decode cX7_init 13 = .ok (.bipush 64, 2) := by decide +kernel
theorem dX7_init_15 : decode cX7_init 15 = .ok (.newarray .int, 2) := by decide +kernel
theorem dX7_init_17 : decode cX7_init 17 = .ok (.putfield 15, 3) := by decide +kernel
theorem dX7_init_20 : decode cX7_init 20 = .ok (.aload_n 0, 1) := by decide +kernel
theorem dX7_init_21 : decode cX7_init 21 = .ok (.bipush 64, 2) := by decide +kernel
theorem dX7_init_23 : decode cX7_init 23 = .ok (.newarray .int, 2) := by decide +kernel
theorem dX7_init_25 : decode cX7_init 25 = .ok (.putfield 18, 3) := by decide +kernel
theorem dX7_init_28 : decode cX7_init 28 = .ok (.aload_n 0, 1) := by decide +kernel
theorem dX7_init_29 : decode cX7_init 29 = .ok (.bipush 64, 2) := by decide +kernel
theorem dX7_init_31 : decode cX7_init 31 = .ok (.newarray .int, 2) := by decide +kernel
theorem dX7_init_33 : decode cX7_init 33 = .ok (.putfield 21, 3) := by decide +kernel
theorem dX7_init_36 : decode cX7_init 36 = .ok (.aload_n 0, 1) := by decide +kernel
theorem dX7_init_37 : decode cX7_init 37 = .ok (.bipush 64, 2) := by decide +kernel
theorem dX7_init_39 : decode cX7_init 39 = .ok (.newarray .int, 2) := by decide +kernel
theorem dX7_init_41 : decode cX7_init 41 = .ok (.putfield 24, 3) := by decide +kernel
theorem dX7_init_44 : decode cX7_init 44 = .ok (.aload_n 0, 1) := by decide +kernel
theorem dX7_init_45 : decode cX7_init 45 = .ok (.getfield 9, 3) := by decide +kernel
theorem dX7_init_48 : decode cX7_init 48 = .ok (.iconst (-1), 1) := by decide +kernel
theorem dX7_init_49 : decode cX7_init 49 = .ok (.invokestatic 27, 3) := by decide +kernel
theorem dX7_init_52 : decode cX7_init 52 = .ok (.return_, 1) := by decide +kernel
theorem dX7_has_0 : decode cX7_has 0 = .ok (.iload_n 1, 1) := by decide +kernel
theorem dX7_has_1 : decode cX7_has 1 = .ok (.ifCond .lt 23, 3) := by decide +kernel
theorem dX7_has_4 : decode cX7_has 4 = .ok (.iload_n 1, 1) := by decide +kernel
theorem dX7_has_5 : decode cX7_has 5 = .ok (.bipush 8, 2) := by decide +kernel
theorem dX7_has_7 : decode cX7_has 7 = .ok (.if_icmp .ge 17, 3) := by decide +kernel
theorem dX7_has_10 : decode cX7_has 10 = .ok (.aload_n 0, 1) := by decide +kernel
theorem dX7_has_11 : decode cX7_has 11 = .ok (.getfield 9, 3) := by decide +kernel
theorem dX7_has_14 : decode cX7_has 14 = .ok (.iload_n 1, 1) := by decide +kernel
theorem dX7_has_15 : decode cX7_has 15 = .ok (.iaload, 1) := by decide +kernel
theorem dX7_has_16 : decode cX7_has 16 = .ok (.iconst (-1), 1) := by decide +kernel
theorem dX7_has_17 : decode cX7_has 17 = .ok (.if_icmp .eq 7, 3) := by decide +kernel
theorem dX7_has_20 : decode cX7_has 20 = .ok (.iconst 1, 1) := by decide +kernel
theorem dX7_has_21 : decode cX7_has 21 = .ok (.goto 4, 3) := by decide +kernel
theorem dX7_has_24 : decode cX7_has 24 = .ok (.iconst 0, 1) := by decide +kernel
theorem dX7_has_25 : decode cX7_has 25 = .ok (.ireturn, 1) := by decide +kernel
theorem dX7_hasLine_0 : decode cX7_hasLine 0 = .ok (.aload_n 0, 1) := by decide +kernel
theorem dX7_hasLine_1 : decode cX7_hasLine 1 = .ok (.iload_n 1, 1) := by decide +kernel
theorem dX7_hasLine_2 : decode cX7_hasLine 2 = .ok (.invokevirtual 33, 3) := by decide +kernel
theorem dX7_hasLine_5 : decode cX7_hasLine 5 = .ok (.ifCond .eq 21, 3) := by decide +kernel
theorem dX7_hasLine_8 : decode cX7_hasLine 8 = .ok (.iload_n 2, 1) := by decide +kernel
theorem dX7_hasLine_9 : decode cX7_hasLine 9 = .ok (.ifCond .lt 17, 3) := by decide +kernel
theorem dX7_hasLine_12 : decode cX7_hasLine 12 = .ok (.iload_n 2, 1) := by decide +kernel
theorem dX7_hasLine_13 : decode cX7_hasLine 13 = .ok (.aload_n 0, 1) := by decide +kernel
theorem dX7_hasLine_14 : decode cX7_hasLine 14 = .ok (.getfield 9, 3) := by decide +kernel
theorem dX7_hasLine_17 : decode cX7_hasLine 17 = .ok (.iload_n 1, 1) := by decide +kernel
theorem dX7_hasLine_18 : decode cX7_hasLine 18 = .ok (.iaload, 1) := by decide +kernel
theorem dX7_hasLine_19 : decode cX7_hasLine 19 = .ok (.if_icmp .ge 7, 3) := by decide +kernel
theorem dX7_hasLine_22 : decode cX7_hasLine 22 = .ok (.iconst 1, 1) := by decide +kernel
theorem dX7_hasLine_23 : decode cX7_hasLine 23 = .ok (.goto 4, 3) := by decide +kernel
theorem dX7_hasLine_26 : decode cX7_hasLine 26 = .ok (.iconst 0, 1) := by decide +kernel
theorem dX7_hasLine_27 : decode cX7_hasLine 27 = .ok (.ireturn, 1) := by decide +kernel
theorem dX7_begin_0 : decode cX7_begin 0 = .ok (.aload_n 0, 1) := by decide +kernel
theorem dX7_begin_1 : decode cX7_begin 1 = .ok (.getfield 9, 3) := by decide +kernel
theorem dX7_begin_4 : decode cX7_begin 4 = .ok (.iload_n 1, 1) := by decide +kernel
theorem dX7_begin_5 : decode cX7_begin 5 = .ok (.iload_n 2, 1) := by decide +kernel
theorem dX7_begin_6 : decode cX7_begin 6 = .ok (.iastore, 1) := by decide +kernel
theorem dX7_begin_7 : decode cX7_begin 7 = .ok (.iconst 0, 1) := by decide +kernel
theorem dX7_begin_8 : decode cX7_begin 8 = .ok (.istore_n 3, 1) := by decide +kernel
theorem dX7_begin_9 : decode cX7_begin 9 = .ok (.iload_n 3, 1) := by decide +kernel
theorem dX7_begin_10 : decode cX7_begin 10 = .ok (.bipush 8, 2) := by decide +kernel
theorem dX7_begin_12 : decode cX7_begin 12 = .ok (.if_icmp .ge 23, 3) := by decide +kernel
theorem dX7_begin_15 : decode cX7_begin 15 = .ok (.aload_n 0, 1) := by decide +kernel
theorem dX7_begin_16 : decode cX7_begin 16 = .ok (.iload_n 1, 1) := by decide +kernel
theorem dX7_begin_17 : decode cX7_begin 17 = .ok (.bipush 8, 2) := by decide +kernel
theorem dX7_begin_19 : decode cX7_begin 19 = .ok (.imul, 1) := by decide +kernel
theorem dX7_begin_20 : decode cX7_begin 20 = .ok (.iload_n 3, 1) := by decide +kernel
theorem dX7_begin_21 : decode cX7_begin 21 = .ok (.iadd, 1) := by decide +kernel
theorem dX7_begin_22 : decode cX7_begin 22 = .ok (.iconst 0, 1) := by decide +kernel
theorem dX7_begin_23 : decode cX7_begin 23 = .ok (.iconst 0, 1) := by decide +kernel
theorem dX7_begin_24 : decode cX7_begin 24 = .ok (.iconst 0, 1) := by decide +kernel
theorem dX7_begin_25 : decode cX7_begin 25 = .ok (.iconst 0, 1) := by decide +kernel
theorem dX7_begin_26 : decode cX7_begin 26 = .ok (.invokevirtual 37, 3) := by decide +kernel
theorem dX7_begin_29 : decode cX7_begin 29 = .ok (.iinc 3 1, 3) := by decide +kernel
theorem dX7_begin_32 : decode cX7_begin 32 = .ok (.goto (-23), 3) := by decide +kernel
theorem dX7_begin_35 : decode cX7_begin 35 = .ok (.return_, 1) := by decide +kernel
theorem dX7_write_0 : decode cX7_write 0 = .ok (.aload_n 0, 1) := by decide +kernel
theorem dX7_write_1 : decode cX7_write 1 = .ok (.getfield 15, 3) := by decide +kernel
theorem dX7_write_4 : decode cX7_write 4 = .ok (.iload_n 1, 1) := by decide +kernel
theorem dX7_write_5 : decode cX7_write 5 = .ok (.iload_n 2, 1) := by decide +kernel
theorem dX7_write_6 : decode cX7_write 6 = .ok (.iastore, 1) := by decide +kernel
theorem dX7_write_7 : decode cX7_write 7 = .ok (.aload_n 0, 1) := by decide +kernel
theorem dX7_write_8 : decode cX7_write 8 = .ok (.getfield 18, 3) := by decide +kernel
theorem dX7_write_11 : decode cX7_write 11 = .ok (.iload_n 1, 1) := by decide +kernel
theorem dX7_write_12 : decode cX7_write 12 = .ok (.iload_n 3, 1) := by decide +kernel
theorem dX7_write_13 : decode cX7_write 13 = .ok (.iastore, 1) := by decide +kernel
theorem dX7_write_14 : decode cX7_write 14 = .ok (.aload_n 0, 1) := by decide +kernel
theorem dX7_write_15 : decode cX7_write 15 = .ok (.getfield 21, 3) := by decide +kernel
theorem dX7_write_18 : decode cX7_write 18 = .ok (.iload_n 1, 1) := by decide +kernel
theorem dX7_write_19 : decode cX7_write 19 = .ok (.iload 4, 2) := by decide +kernel
theorem dX7_write_21 : decode cX7_write 21 = .ok (.iastore, 1) := by decide +kernel
theorem dX7_write_22 : decode cX7_write 22 = .ok (.aload_n 0, 1) := by decide +kernel
theorem dX7_write_23 : decode cX7_write 23 = .ok (.getfield 24, 3) := by decide +kernel
theorem dX7_write_26 : decode cX7_write 26 = .ok (.iload_n 1, 1) := by decide +kernel
theorem dX7_write_27 : decode cX7_write 27 = .ok (.iload 5, 2) := by decide +kernel
theorem dX7_write_29 : decode cX7_write 29 = .ok (.iastore, 1) := by decide +kernel
theorem dX7_write_30 : decode cX7_write 30 = .ok (.return_, 1) := by decide +kernel
theorem dX7_isTakenBefore_0 : decode cX7_isTakenBefore 0 = .ok (.iload_n 1, 1) := by decide +kernel
theorem dX7_isTakenBefore_1 : decode cX7_isTakenBefore 1 = .ok (.bipush 8, 2) := by decide +kernel
theorem dX7_isTakenBefore_3 : decode cX7_isTakenBefore 3 = .ok (.imul, 1) := by decide +kernel
theorem dX7_isTakenBefore_4 : decode cX7_isTakenBefore 4 = .ok (.iload_n 2, 1) := by decide +kernel
theorem dX7_isTakenBefore_5 : decode cX7_isTakenBefore 5 = .ok (.iadd, 1) := by decide +kernel
theorem dX7_isTakenBefore_6 : decode cX7_isTakenBefore 6 = .ok (.istore_n 3, 1) := by decide +kernel
theorem dX7_isTakenBefore_7 : decode cX7_isTakenBefore 7 = .ok (.iload_n 1, 1) := by decide +kernel
theorem dX7_isTakenBefore_8 : decode cX7_isTakenBefore 8 = .ok (.bipush 8, 2) := by decide +kernel
theorem dX7_isTakenBefore_10 : decode cX7_isTakenBefore 10 = .ok (.imul, 1) := by decide +kernel
theorem dX7_isTakenBefore_11 : decode cX7_isTakenBefore 11 = .ok (.istore 4, 2) := by decide +kernel
theorem dX7_isTakenBefore_13 : decode cX7_isTakenBefore 13 = .ok (.iload 4, 2) := by decide +kernel
theorem dX7_isTakenBefore_15 : decode cX7_isTakenBefore 15 = .ok (.iload_n 3, 1) := by decide +kernel
theorem dX7_isTakenBefore_16 : decode cX7_isTakenBefore 16 = .ok (.if_icmp .ge 43, 3) := by decide +kernel
theorem dX7_isTakenBefore_19 : decode cX7_isTakenBefore 19 = .ok (.aload_n 0, 1) := by decide +kernel
theorem dX7_isTakenBefore_20 : decode cX7_isTakenBefore 20 = .ok (.getfield 15, 3) := by decide +kernel
theorem dX7_isTakenBefore_23 : decode cX7_isTakenBefore 23 = .ok (.iload 4, 2) := by decide +kernel
theorem dX7_isTakenBefore_25 : decode cX7_isTakenBefore 25 = .ok (.iaload, 1) := by decide +kernel
theorem dX7_isTakenBefore_26 : decode cX7_isTakenBefore 26 = .ok (.aload_n 0, 1) := by decide +kernel
theorem dX7_isTakenBefore_27 : decode cX7_isTakenBefore 27 = .ok (.getfield 15, 3) := by decide +kernel
theorem dX7_isTakenBefore_30 : decode cX7_isTakenBefore 30 = .ok (.iload_n 3, 1) := by decide +kernel
theorem dX7_isTakenBefore_31 : decode cX7_isTakenBefore 31 = .ok (.iaload, 1) := by decide +kernel
theorem dX7_isTakenBefore_32 : decode cX7_isTakenBefore 32 = .ok (.if_icmp .ne 21, 3) := by decide +kernel
theorem dX7_isTakenBefore_35 : decode cX7_isTakenBefore 35 = .ok (.aload_n 0, 1) := by decide +kernel
theorem dX7_isTakenBefore_36 : decode cX7_isTakenBefore 36 = .ok (.getfield 18, 3) := by decide +kernel
theorem dX7_isTakenBefore_39 : decode cX7_isTakenBefore 39 = .ok (.iload 4, 2) := by decide +kernel
theorem dX7_isTakenBefore_41 : decode cX7_isTakenBefore 41 = .ok (.iaload, 1) := by decide +kernel
theorem dX7_isTakenBefore_42 : decode cX7_isTakenBefore 42 = .ok (.aload_n 0, 1) := by decide +kernel
theorem dX7_isTakenBefore_43 : decode cX7_isTakenBefore 43 = .ok (.getfield 18, 3) := by decide +kernel
theorem dX7_isTakenBefore_46 : decode cX7_isTakenBefore 46 = .ok (.iload_n 3, 1) := by decide +kernel
theorem dX7_isTakenBefore_47 : decode cX7_isTakenBefore 47 = .ok (.iaload, 1) := by decide +kernel
theorem dX7_isTakenBefore_48 : decode cX7_isTakenBefore 48 = .ok (.if_icmp .ne 5, 3) := by decide +kernel
theorem dX7_isTakenBefore_51 : decode cX7_isTakenBefore 51 = .ok (.iconst 1, 1) := by decide +kernel
theorem dX7_isTakenBefore_52 : decode cX7_isTakenBefore 52 = .ok (.ireturn, 1) := by decide +kernel
theorem dX7_isTakenBefore_53 : decode cX7_isTakenBefore 53 = .ok (.iinc 4 1, 3) := by decide +kernel
theorem dX7_isTakenBefore_56 : decode cX7_isTakenBefore 56 = .ok (.goto (-43), 3) := by decide +kernel
theorem dX7_isTakenBefore_59 : decode cX7_isTakenBefore 59 = .ok (.iconst 0, 1) := by decide +kernel
theorem dX7_isTakenBefore_60 : decode cX7_isTakenBefore 60 = .ok (.ireturn, 1) := by decide +kernel
theorem dX8_init_0 : decode cX8_init 0 = .ok (.aload_n 0, 1) := by decide +kernel
theorem dX8_init_1 : decode cX8_init 1 = .ok (.invokespecial 3, 3) := by decide +kernel
theorem dX8_init_4 : decode cX8_init 4 = .ok (.aload_n 0, 1) := by decide +kernel
theorem dX8_init_5 : decode cX8_init 5 = .ok (.aload_n 1, 1) := by decide +kernel
theorem dX8_init_6 : decode cX8_init 6 = .ok (.putfield 9, 3) := by decide +kernel
theorem dX8_init_9 : decode cX8_init 9 = .ok (.aload_n 0, 1) := by decide +kernel
theorem dX8_init_10 : decode cX8_init 10 = .ok (.bipush 24, 2) := by decide +kernel
theorem dX8_init_12 : decode cX8_init 12 = .ok (.newarray .long, 2) := by decide +kernel
theorem dX8_init_14 : decode cX8_init 14 = .ok (.putfield 15, 3) := by decide +kernel
theorem dX8_init_17 : decode cX8_init 17 = .ok (.return_, 1) := by decide +kernel
theorem dX8_widest_0 : decode cX8_widest 0 = .ok (.iload_n 1, 1) := by decide +kernel
theorem dX8_widest_1 : decode cX8_widest 1 = .ok (.iload_n 2, 1) := by decide +kernel
theorem dX8_widest_2 : decode cX8_widest 2 = .ok (.invokestatic 19, 3) := by decide +kernel
theorem dX8_widest_5 : decode cX8_widest 5 = .ok (.istore_n 3, 1) := by decide +kernel
theorem dX8_widest_6 : decode cX8_widest 6 = .ok (.iload_n 1, 1) := by decide +kernel
theorem dX8_widest_7 : decode cX8_widest 7 = .ok (.iload_n 2, 1) := by decide +kernel
theorem dX8_widest_8 : decode cX8_widest 8 = .ok (.invokestatic 25, 3) := by decide +kernel
theorem dX8_widest_11 : decode cX8_widest 11 = .ok (.istore 4, 2) := by decide +kernel
theorem dX8_widest_13 : decode cX8_widest 13 = .ok (.ldc2_w 28, 3) := by decide +kernel
theorem dX8_widest_16 : decode cX8_widest 16 = .ok (.lstore 5, 2) := by decide +kernel
theorem dX8_widest_18 : decode cX8_widest 18 = .ok (.iconst 0, 1) := by decide +kernel
theorem dX8_widest_19 : decode cX8_widest 19 = .ok (.istore 7, 2) := by decide +kernel
theorem dX8_widest_21 : decode cX8_widest 21 = .ok (.iload 7, 2) := by decide +kernel
theorem dX8_widest_23 : decode cX8_widest 23 = .ok (.aload_n 0, 1) := by decide +kernel
theorem dX8_widest_24 : decode cX8_widest 24 = .ok (.getfield 9, 3) := by decide +kernel
theorem dX8_widest_27 : decode cX8_widest 27 = .ok (.getfield 30, 3) := by decide +kernel
theorem dX8_widest_30 : decode cX8_widest 30 = .ok (.if_icmp .ge 34, 3) := by decide +kernel
theorem dX8_widest_33 : decode cX8_widest 33 = .ok (.aload_n 0, 1) := by decide +kernel
theorem dX8_widest_34 : decode cX8_widest 34 = .ok (.getfield 15, 3) := by decide +kernel
theorem dX8_widest_37 : decode cX8_widest 37 = .ok (.iload 7, 2) := by decide +kernel
theorem dX8_widest_39 : decode cX8_widest 39 = .ok (.aload_n 0, 1) := by decide +kernel
theorem dX8_widest_40 : decode cX8_widest 40 = .ok (.aload_n 0, 1) := by decide +kernel
theorem dX8_widest_41 : decode cX8_widest 41 = .ok (.getfield 9, 3) := by decide +kernel
theorem dX8_widest_44 : decode cX8_widest 44 = .ok (.getfield 36, 3) := by decide +kernel
theorem dX8_widest_47 : decode cX8_widest 47 = .ok (.iload 7, 2) := by decide +kernel
theorem dX8_widest_49 : decode cX8_widest 49 = .ok (.iaload, 1) := by decide +kernel
theorem dX8_widest_50 : decode cX8_widest 50 = .ok (.iload_n 3, 1) := by decide +kernel
theorem dX8_widest_51 : decode cX8_widest 51 = .ok (.iload 4, 2) := by decide +kernel
theorem dX8_widest_53 : decode cX8_widest 53 = .ok (.iconst 1, 1) := by decide +kernel
theorem dX8_widest_54 : decode cX8_widest 54 = .ok (.invokevirtual 40, 3) := by decide +kernel
theorem dX8_widest_57 : decode cX8_widest 57 = .ok (.lastore, 1) := by decide +kernel
theorem dX8_widest_58 : decode cX8_widest 58 = .ok (.iinc 7 1, 3) := by decide +kernel
theorem dX8_widest_61 : decode cX8_widest 61 = .ok (.goto (-40), 3) := by decide +kernel
theorem dX8_widest_64 : decode cX8_widest 64 = .ok (.iconst 0, 1) := by decide +kernel
theorem dX8_widest_65 : decode cX8_widest 65 = .ok (.istore 7, 2) := by decide +kernel
theorem dX8_widest_67 : decode cX8_widest 67 = .ok (.iload 7, 2) := by decide +kernel
theorem dX8_widest_69 : decode cX8_widest 69 = .ok (.aload_n 0, 1) := by decide +kernel
theorem dX8_widest_70 : decode cX8_widest 70 = .ok (.getfield 9, 3) := by decide +kernel
theorem dX8_widest_73 : decode cX8_widest 73 = .ok (.getfield 30, 3) := by decide +kernel
theorem dX8_widest_76 : decode cX8_widest 76 = .ok (.if_icmp .ge 76, 3) := by decide +kernel
theorem dX8_widest_79 : decode cX8_widest 79 = .ok (.aload_n 0, 1) := by decide +kernel
theorem dX8_widest_80 : decode cX8_widest 80 = .ok (.invokevirtual 44, 3) := by decide +kernel
theorem dX8_widest_83 : decode cX8_widest 83 = .ok (.istore 8, 2) := by decide +kernel
theorem dX8_widest_85 : decode cX8_widest 85 = .ok (.aload_n 0, 1) := by decide +kernel
theorem dX8_widest_86 : decode cX8_widest 86 = .ok (.getfield 15, 3) := by decide +kernel
theorem dX8_widest_89 : decode cX8_widest 89 = .ok (.iload 8, 2) := by decide +kernel
theorem dX8_widest_91 : decode cX8_widest 91 = .ok (.laload, 1) := by decide +kernel
theorem dX8_widest_92 : decode cX8_widest 92 = .ok (.lstore 9, 2) := by decide +kernel
theorem dX8_widest_94 : decode cX8_widest 94 = .ok (.lload 9, 2) := by decide +kernel
theorem dX8_widest_96 : decode cX8_widest 96 = .ok (.aload_n 0, 1) := by decide +kernel
theorem dX8_widest_97 : decode cX8_widest 97 = .ok (.aload_n 0, 1) := by decide +kernel
theorem dX8_widest_98 : decode cX8_widest 98 = .ok (.getfield 9, 3) := by decide +kernel
theorem dX8_widest_101 : decode cX8_widest 101 = .ok (.getfield 36, 3) := by decide +kernel
theorem dX8_widest_104 : decode cX8_widest 104 = .ok (.iload 8, 2) := by decide +kernel
theorem dX8_widest_106 : decode cX8_widest 106 = .ok (.iaload, 1) := by decide +kernel
theorem dX8_widest_107 : decode cX8_widest 107 = .ok (.iload_n 3, 1) := by decide +kernel
theorem dX8_widest_108 : decode cX8_widest 108 = .ok (.iload 4, 2) := by decide +kernel
theorem dX8_widest_110 : decode cX8_widest 110 = .ok (.iconst 0, 1) := by decide +kernel
theorem dX8_widest_111 : decode cX8_widest 111 = .ok (.invokevirtual 40, 3) := by decide +kernel
theorem dX8_widest_114 : decode cX8_widest 114 = .ok (.invokestatic 48, 3) := by decide +kernel
theorem dX8_widest_117 : decode cX8_widest 117 = .ok (.lstore 11, 2) := by decide +kernel
theorem dX8_widest_119 : decode cX8_widest 119 = .ok (.lload 5, 2) := by decide +kernel
theorem dX8_widest_121 : decode cX8_widest 121 = .ok (.lload 11, 2) := by decide +kernel
theorem dX8_widest_123 : decode cX8_widest 123 = .ok (.invokestatic 51, 3) := by decide +kernel
theorem dX8_widest_126 : decode cX8_widest 126 = .ok (.lstore 5, 2) := by decide +kernel
theorem dX8_widest_128 : decode cX8_widest 128 = .ok (.aload_n 0, 1) := by decide +kernel
theorem dX8_widest_129 : decode cX8_widest 129 = .ok (.getfield 15, 3) := by decide +kernel
theorem dX8_widest_132 : decode cX8_widest 132 = .ok (.iload 8, 2) := by decide +kernel
theorem dX8_widest_134 : decode cX8_widest 134 = .ok (.ldc2_w 53, 3) := by decide +kernel
theorem dX8_widest_137 : decode cX8_widest 137 = .ok (.lastore, 1) := by decide +kernel
theorem dX8_widest_138 : decode cX8_widest 138 = .ok (.aload_n 0, 1) := by decide +kernel
theorem dX8_widest_139 : decode cX8_widest 139 = .ok (.iload 8, 2) := by decide +kernel
theorem dX8_widest_141 : decode cX8_widest 141 = .ok (.lload 9, 2) := by decide +kernel
theorem dX8_widest_143 : decode cX8_widest 143 = .ok (.invokevirtual 55, 3) := by decide +kernel
theorem dX8_widest_146 : decode cX8_widest 146 = .ok (.iinc 7 1, 3) := by decide +kernel
theorem dX8_widest_149 : decode cX8_widest 149 = .ok (.goto (-82), 3) := by decide +kernel
theorem dX8_widest_152 : decode cX8_widest 152 = .ok (.lload 5, 2) := by decide +kernel
theorem dX8_widest_154 : decode cX8_widest 154 = .ok (.l2i, 1) := by decide +kernel
theorem dX8_widest_155 : decode cX8_widest 155 = .ok (.ireturn, 1) := by decide +kernel
theorem dX8_chainFrom_0 : decode cX8_chainFrom 0 = .ok (.iconst 0, 1) := by decide +kernel
theorem dX8_chainFrom_1 : decode cX8_chainFrom 1 = .ok (.istore 4, 2) := by decide +kernel
theorem dX8_chainFrom_3 : decode cX8_chainFrom 3 = .ok (.iload 4, 2) := by decide +kernel
theorem dX8_chainFrom_5 : decode cX8_chainFrom 5 = .ok (.aload_n 0, 1) := by decide +kernel
theorem dX8_chainFrom_6 : decode cX8_chainFrom 6 = .ok (.getfield 9, 3) := by decide +kernel
theorem dX8_chainFrom_9 : decode cX8_chainFrom 9 = .ok (.getfield 30, 3) := by decide +kernel
theorem dX8_chainFrom_12 : decode cX8_chainFrom 12 = .ok (.if_icmp .ge 75, 3) := by decide +kernel
theorem dX8_chainFrom_15 : decode cX8_chainFrom 15 = .ok (.aload_n 0, 1) := by decide +kernel
theorem dX8_chainFrom_16 : decode cX8_chainFrom 16 = .ok (.getfield 15, 3) := by decide +kernel
theorem dX8_chainFrom_19 : decode cX8_chainFrom 19 = .ok (.iload 4, 2) := by decide +kernel
theorem dX8_chainFrom_21 : decode cX8_chainFrom 21 = .ok (.laload, 1) := by decide +kernel
theorem dX8_chainFrom_22 : decode cX8_chainFrom 22 = .ok (.ldc2_w 53, 3) := by decide +kernel
theorem dX8_chainFrom_25 : decode cX8_chainFrom 25 = .ok (.lcmp, 1) := by decide +kernel
theorem dX8_chainFrom_26 : decode cX8_chainFrom 26 = .ok (.ifCond .eq 55, 3) := by decide +kernel
theorem dX8_chainFrom_29 : decode cX8_chainFrom 29 = .ok (.aload_n 0, 1) := by decide +kernel
theorem dX8_chainFrom_30 : decode cX8_chainFrom 30 = .ok (.getfield 9, 3) := by decide +kernel
theorem dX8_chainFrom_33 : decode cX8_chainFrom 33 = .ok (.aload_n 0, 1) := by decide +kernel
theorem dX8_chainFrom_34 : decode cX8_chainFrom 34 = .ok (.getfield 9, 3) := by decide +kernel
theorem dX8_chainFrom_37 : decode cX8_chainFrom 37 = .ok (.getfield 36, 3) := by decide +kernel
theorem dX8_chainFrom_40 : decode cX8_chainFrom 40 = .ok (.iload_n 1, 1) := by decide +kernel
theorem dX8_chainFrom_41 : decode cX8_chainFrom 41 = .ok (.iaload, 1) := by decide +kernel
theorem dX8_chainFrom_42 : decode cX8_chainFrom 42 = .ok (.aload_n 0, 1) := by decide +kernel
theorem dX8_chainFrom_43 : decode cX8_chainFrom 43 = .ok (.getfield 9, 3) := by decide +kernel
theorem dX8_chainFrom_46 : decode cX8_chainFrom 46 = .ok (.getfield 36, 3) := by decide +kernel
theorem dX8_chainFrom_49 : decode cX8_chainFrom 49 = .ok (.iload 4, 2) := by decide +kernel
theorem dX8_chainFrom_51 : decode cX8_chainFrom 51 = .ok (.iaload, 1) := by decide +kernel
theorem dX8_chainFrom_52 : decode cX8_chainFrom 52 = .ok (.invokevirtual 59, 3) := by decide +kernel
theorem dX8_chainFrom_55 : decode cX8_chainFrom 55 = .ok (.i2l, 1) := by decide +kernel
theorem dX8_chainFrom_56 : decode cX8_chainFrom 56 = .ok (.lstore 5, 2) := by decide +kernel
theorem dX8_chainFrom_58 : decode cX8_chainFrom 58 = .ok (.aload_n 0, 1) := by decide +kernel
theorem dX8_chainFrom_59 : decode cX8_chainFrom 59 = .ok (.getfield 15, 3) := by decide +kernel
theorem dX8_chainFrom_62 : decode cX8_chainFrom 62 = .ok (.iload 4, 2) := by decide +kernel
theorem dX8_chainFrom_64 : decode cX8_chainFrom 64 = .ok (.aload_n 0, 1) := by decide +kernel
theorem dX8_chainFrom_65 : decode cX8_chainFrom 65 = .ok (.getfield 15, 3) := by decide +kernel
theorem dX8_chainFrom_68 : decode cX8_chainFrom 68 = .ok (.iload 4, 2) := by decide +kernel
theorem dX8_chainFrom_70 : decode cX8_chainFrom 70 = .ok (.laload, 1) := by decide +kernel
theorem dX8_chainFrom_71 : decode cX8_chainFrom 71 = .ok (.lload_n 2, 1) := by decide +kernel
theorem dX8_chainFrom_72 : decode cX8_chainFrom 72 = .ok (.lload 5, 2) := by decide +kernel
theorem dX8_chainFrom_74 : decode cX8_chainFrom 74 = .ok (.invokestatic 48, 3) := by decide +kernel
theorem dX8_chainFrom_77 : decode cX8_chainFrom 77 = .ok (.invokestatic 51, 3) := by decide +kernel
theorem dX8_chainFrom_80 : decode cX8_chainFrom 80 = .ok (.lastore, 1) := by decide +kernel
theorem dX8_chainFrom_81 : decode cX8_chainFrom 81 = .ok (.iinc 4 1, 3) := by decide +kernel
theorem dX8_chainFrom_84 : decode cX8_chainFrom 84 = .ok (.goto (-81), 3) := by decide +kernel
theorem dX8_chainFrom_87 : decode cX8_chainFrom 87 = .ok (.return_, 1) := by decide +kernel
theorem dX8_leastGap_0 : decode cX8_leastGap 0 = .ok (.iconst 0, 1) := by decide +kernel
theorem dX8_leastGap_1 : decode cX8_leastGap 1 = .ok (.istore_n 1, 1) := by decide +kernel
theorem dX8_leastGap_2 : decode cX8_leastGap 2 = .ok (.iconst 1, 1) := by decide +kernel
theorem dX8_leastGap_3 : decode cX8_leastGap 3 = .ok (.istore_n 2, 1) := by decide +kernel
theorem dX8_leastGap_4 : decode cX8_leastGap 4 = .ok (.iload_n 2, 1) := by decide +kernel
theorem dX8_leastGap_5 : decode cX8_leastGap 5 = .ok (.aload_n 0, 1) := by decide +kernel
theorem dX8_leastGap_6 : decode cX8_leastGap 6 = .ok (.getfield 9, 3) := by decide +kernel
theorem dX8_leastGap_9 : decode cX8_leastGap 9 = .ok (.getfield 30, 3) := by decide +kernel
theorem dX8_leastGap_12 : decode cX8_leastGap 12 = .ok (.if_icmp .ge 53, 3) := by decide +kernel
theorem dX8_leastGap_15 : decode cX8_leastGap 15 = .ok (.aload_n 0, 1) := by decide +kernel
theorem dX8_leastGap_16 : decode cX8_leastGap 16 = .ok (.getfield 15, 3) := by decide +kernel
theorem dX8_leastGap_19 : decode cX8_leastGap 19 = .ok (.iload_n 2, 1) := by decide +kernel
theorem dX8_leastGap_20 : decode cX8_leastGap 20 = .ok (.laload, 1) := by decide +kernel
theorem dX8_leastGap_21 : decode cX8_leastGap 21 = .ok (.ldc2_w 53, 3) := by decide +kernel
theorem dX8_leastGap_24 : decode cX8_leastGap 24 = .ok (.lcmp, 1) := by decide +kernel
theorem dX8_leastGap_25 : decode cX8_leastGap 25 = .ok (.ifCond .eq 34, 3) := by decide +kernel
theorem dX8_leastGap_28 : decode cX8_leastGap 28 = .ok (.aload_n 0, 1) := by decide +kernel
theorem dX8_leastGap_29 : decode cX8_leastGap 29 = .ok (.getfield 15, 3) := by decide +kernel
theorem dX8_leastGap_32 : decode cX8_leastGap 32 = .ok (.iload_n 1, 1) := by decide +kernel
theorem dX8_leastGap_33 : decode cX8_leastGap 33 = .ok (.laload, 1) := by decide +kernel
theorem dX8_leastGap_34 : decode cX8_leastGap 34 = .ok (.ldc2_w 53, 3) := by decide +kernel
theorem dX8_leastGap_37 : decode cX8_leastGap 37 = .ok (.lcmp, 1) := by decide +kernel
theorem dX8_leastGap_38 : decode cX8_leastGap 38 = .ok (.ifCond .eq 19, 3) := by decide +kernel
theorem dX8_leastGap_41 : decode cX8_leastGap 41 = .ok (.aload_n 0, 1) := by decide +kernel
theorem dX8_leastGap_42 : decode cX8_leastGap 42 = .ok (.getfield 15, 3) := by decide +kernel
theorem dX8_leastGap_45 : decode cX8_leastGap 45 = .ok (.iload_n 2, 1) := by decide +kernel
theorem dX8_leastGap_46 : decode cX8_leastGap 46 = .ok (.laload, 1) := by decide +kernel
theorem dX8_leastGap_47 : decode cX8_leastGap 47 = .ok (.aload_n 0, 1) := by decide +kernel
theorem dX8_leastGap_48 : decode cX8_leastGap 48 = .ok (.getfield 15, 3) := by decide +kernel
theorem dX8_leastGap_51 : decode cX8_leastGap 51 = .ok (.iload_n 1, 1) := by decide +kernel
theorem dX8_leastGap_52 : decode cX8_leastGap 52 = .ok (.laload, 1) := by decide +kernel
theorem dX8_leastGap_53 : decode cX8_leastGap 53 = .ok (.lcmp, 1) := by decide +kernel
theorem dX8_leastGap_54 : decode cX8_leastGap 54 = .ok (.ifCond .ge 5, 3) := by decide +kernel
theorem dX8_leastGap_57 : decode cX8_leastGap 57 = .ok (.iload_n 2, 1) := by decide +kernel
theorem dX8_leastGap_58 : decode cX8_leastGap 58 = .ok (.istore_n 1, 1) := by decide +kernel
theorem dX8_leastGap_59 : decode cX8_leastGap 59 = .ok (.iinc 2 1, 3) := by decide +kernel
theorem dX8_leastGap_62 : decode cX8_leastGap 62 = .ok (.goto (-58), 3) := by decide +kernel
theorem dX8_leastGap_65 : decode cX8_leastGap 65 = .ok (.iload_n 1, 1) := by decide +kernel
theorem dX8_leastGap_66 : decode cX8_leastGap 66 = .ok (.ireturn, 1) := by decide +kernel
theorem dX8_toRim_0 : decode cX8_toRim 0 = .ok (.ldc2_w 28, 3) := by decide +kernel
theorem dX8_toRim_3 : decode cX8_toRim 3 = .ok (.lstore 5, 2) := by decide +kernel
theorem dX8_toRim_5 : decode cX8_toRim 5 = .ok (.iconst 0, 1) := by decide +kernel
theorem dX8_toRim_6 : decode cX8_toRim 6 = .ok (.istore 7, 2) := by decide +kernel
theorem dX8_toRim_8 : decode cX8_toRim 8 = .ok (.iload 7, 2) := by decide +kernel
theorem dX8_toRim_10 : decode cX8_toRim 10 = .ok (.iconst 4, 1) := by decide +kernel
theorem dX8_toRim_11 : decode cX8_toRim 11 = .ok (.if_icmp .ge 57, 3) := by decide +kernel
theorem dX8_toRim_14 : decode cX8_toRim 14 = .ok (.iload 7, 2) := by decide +kernel
theorem dX8_toRim_16 : decode cX8_toRim 16 = .ok (.iload_n 2, 1) := by decide +kernel
theorem dX8_toRim_17 : decode cX8_toRim 17 = .ok (.if_icmp .lt 13, 3) := by decide +kernel
theorem dX8_toRim_20 : decode cX8_toRim 20 = .ok (.iload 7, 2) := by decide +kernel
theorem dX8_toRim_22 : decode cX8_toRim 22 = .ok (.iload_n 3, 1) := by decide +kernel
theorem dX8_toRim_23 : decode cX8_toRim 23 = .ok (.if_icmp .ge 7, 3) := by decide +kernel
theorem dX8_toRim_26 : decode cX8_toRim 26 = .ok (.iconst 1, 1) := by decide +kernel
theorem dX8_toRim_27 : decode cX8_toRim 27 = .ok (.goto 4, 3) := by decide +kernel
theorem dX8_toRim_30 : decode cX8_toRim 30 = .ok (.iconst 0, 1) := by decide +kernel
theorem dX8_toRim_31 : decode cX8_toRim 31 = .ok (.iload 4, 2) := by decide +kernel
theorem dX8_toRim_33 : decode cX8_toRim 33 = .ok (.if_icmp .ne 29, 3) := by decide +kernel
theorem dX8_toRim_36 : decode cX8_toRim 36 = .ok (.aload_n 0, 1) := by decide +kernel
theorem dX8_toRim_37 : decode cX8_toRim 37 = .ok (.iload_n 1, 1) := by decide +kernel
theorem dX8_toRim_38 : decode cX8_toRim 38 = .ok (.iload 7, 2) := by decide +kernel
theorem dX8_toRim_40 : decode cX8_toRim 40 = .ok (.invokevirtual 62, 3) := by decide +kernel
theorem dX8_toRim_43 : decode cX8_toRim 43 = .ok (.i2l, 1) := by decide +kernel
theorem dX8_toRim_44 : decode cX8_toRim 44 = .ok (.lstore 8, 2) := by decide +kernel
theorem dX8_toRim_46 : decode cX8_toRim 46 = .ok (.lload 5, 2) := by decide +kernel
theorem dX8_toRim_48 : decode cX8_toRim 48 = .ok (.ldc2_w 65, 3) := by decide +kernel
theorem dX8_toRim_51 : decode cX8_toRim 51 = .ok (.lload 8, 2) := by decide +kernel
theorem dX8_toRim_53 : decode cX8_toRim 53 = .ok (.lmul, 1) := by decide +kernel
theorem dX8_toRim_54 : decode cX8_toRim 54 = .ok (.lload 8, 2) := by decide +kernel
theorem dX8_toRim_56 : decode cX8_toRim 56 = .ok (.lmul, 1) := by decide +kernel
theorem dX8_toRim_57 : decode cX8_toRim 57 = .ok (.invokestatic 51, 3) := by decide +kernel
theorem dX8_toRim_60 : decode cX8_toRim 60 = .ok (.lstore 5, 2) := by decide +kernel
theorem dX8_toRim_62 : decode cX8_toRim 62 = .ok (.iinc 7 1, 3) := by decide +kernel
theorem dX8_toRim_65 : decode cX8_toRim 65 = .ok (.goto (-57), 3) := by decide +kernel
theorem dX8_toRim_68 : decode cX8_toRim 68 = .ok (.lload 5, 2) := by decide +kernel
theorem dX8_toRim_70 : decode cX8_toRim 70 = .ok (.lreturn, 1) := by decide +kernel
theorem dX8_toSide_0 : decode cX8_toSide 0 = .ok (.iload_n 2, 1) := by decide +kernel
theorem dX8_toSide_1 : decode cX8_toSide 1 = .ok (.tableswitch 73 0 2 #[27, 37, 55], 27) := by decide +kernel
theorem dX8_toSide_28 : decode cX8_toSide 28 = .ok (.aload_n 0, 1) := by decide +kernel
theorem dX8_toSide_29 : decode cX8_toSide 29 = .ok (.getfield 9, 3) := by decide +kernel
theorem dX8_toSide_32 : decode cX8_toSide 32 = .ok (.getfield 67, 3) := by decide +kernel
theorem dX8_toSide_35 : decode cX8_toSide 35 = .ok (.iload_n 1, 1) := by decide +kernel
theorem dX8_toSide_36 : decode cX8_toSide 36 = .ok (.iaload, 1) := by decide +kernel
theorem dX8_toSide_37 : decode cX8_toSide 37 = .ok (.ireturn, 1) := by decide +kernel
theorem dX8_toSide_38 : decode cX8_toSide 38 = .ok (.aload_n 0, 1) := by decide +kernel
theorem dX8_toSide_39 : decode cX8_toSide 39 = .ok (.getfield 9, 3) := by decide +kernel
theorem dX8_toSide_42 : decode cX8_toSide 42 = .ok (.getfield 70, 3) := by decide +kernel
theorem dX8_toSide_45 : decode cX8_toSide 45 = .ok (.aload_n 0, 1) := by decide +kernel
theorem dX8_toSide_46 : decode cX8_toSide 46 = .ok (.getfield 9, 3) := by decide +kernel
theorem dX8_toSide_49 : decode cX8_toSide 49 = .ok (.getfield 73, 3) := by decide +kernel
theorem dX8_toSide_52 : decode cX8_toSide 52 = .ok (.iload_n 1, 1) := by decide +kernel
theorem dX8_toSide_53 : decode cX8_toSide 53 = .ok (.iaload, 1) := by decide +kernel
theorem dX8_toSide_54 : decode cX8_toSide 54 = .ok (.isub, 1) := by decide +kernel
theorem dX8_toSide_55 : decode cX8_toSide 55 = .ok (.ireturn, 1) := by decide +kernel
theorem dX8_toSide_56 : decode cX8_toSide 56 = .ok (.aload_n 0, 1) := by decide +kernel
theorem dX8_toSide_57 : decode cX8_toSide 57 = .ok (.getfield 9, 3) := by decide +kernel
theorem dX8_toSide_60 : decode cX8_toSide 60 = .ok (.getfield 76, 3) := by decide +kernel
theorem dX8_toSide_63 : decode cX8_toSide 63 = .ok (.aload_n 0, 1) := by decide +kernel
theorem dX8_toSide_64 : decode cX8_toSide 64 = .ok (.getfield 9, 3) := by decide +kernel
theorem dX8_toSide_67 : decode cX8_toSide 67 = .ok (.getfield 67, 3) := by decide +kernel
theorem dX8_toSide_70 : decode cX8_toSide 70 = .ok (.iload_n 1, 1) := by decide +kernel
theorem dX8_toSide_71 : decode cX8_toSide 71 = .ok (.iaload, 1) := by decide +kernel
theorem dX8_toSide_72 : decode cX8_toSide 72 = .ok (.isub, 1) := by decide +kernel
theorem dX8_toSide_73 : decode cX8_toSide 73 = .ok (.ireturn, 1) := by decide +kernel
theorem dX8_toSide_74 : decode cX8_toSide 74 = .ok (.aload_n 0, 1) := by decide +kernel
theorem dX8_toSide_75 : decode cX8_toSide 75 = .ok (.getfield 9, 3) := by decide +kernel
theorem dX8_toSide_78 : decode cX8_toSide 78 = .ok (.getfield 73, 3) := by decide +kernel
theorem dX8_toSide_81 : decode cX8_toSide 81 = .ok (.iload_n 1, 1) := by decide +kernel
theorem dX8_toSide_82 : decode cX8_toSide 82 = .ok (.iaload, 1) := by decide +kernel
theorem dX8_toSide_83 : decode cX8_toSide 83 = .ok (.ireturn, 1) := by decide +kernel
theorem dX9_init_0 : decode cX9_init 0 = .ok (.aload_n 0, 1) := by decide +kernel
theorem dX9_init_1 : decode cX9_init 1 = .ok (.invokespecial 3, 3) := by decide +kernel
theorem dX9_init_4 : decode cX9_init 4 = .ok (.aload_n 0, 1) := by decide +kernel
theorem dX9_init_5 : decode cX9_init 5 = .ok (.bipush 100, 2) := by decide +kernel
theorem dX9_init_7 : decode cX9_init 7 = .ok (.putfield 9, 3) := by decide +kernel
theorem dX9_init_10 : decode cX9_init 10 = .ok (.aload_n 0, 1) := by decide +kernel
theorem dX9_init_11 : decode cX9_init 11 = .ok (.bipush 100, 2) := by decide +kernel
theorem dX9_init_13 : decode cX9_init 13 = .ok (.putfield 15, 3) := by decide +kernel
theorem dX9_init_16 : decode cX9_init 16 = .ok (.aload_n 0, 1) := by decide +kernel
theorem dX9_init_17 : decode cX9_init 17 = .ok (.bipush 24, 2) := by decide +kernel
theorem dX9_init_19 : decode cX9_init 19 = .ok (.newarray .int, 2) := by decide +kernel
theorem dX9_init_21 : decode cX9_init 21 = .ok (.putfield 18, 3) := by decide +kernel
theorem dX9_init_24 : decode cX9_init 24 = .ok (.aload_n 0, 1) := by decide +kernel
theorem dX9_init_25 : decode cX9_init 25 = .ok (.bipush 24, 2) := by decide +kernel
theorem dX9_init_27 : decode cX9_init 27 = .ok (.newarray .int, 2) := by decide +kernel
theorem dX9_init_29 : decode cX9_init 29 = .ok (.putfield 22, 3) := by decide +kernel
theorem dX9_init_32 : decode cX9_init 32 = .ok (.aload_n 0, 1) := by decide +kernel
theorem dX9_init_33 : decode cX9_init 33 = .ok (.bipush 24, 2) := by decide +kernel
theorem dX9_init_35 : decode cX9_init 35 = .ok (.newarray .int, 2) := by decide +kernel
theorem dX9_init_37 : decode cX9_init 37 = .ok (.putfield 25, 3) := by decide +kernel
theorem dX9_init_40 : decode cX9_init 40 = .ok (.aload_n 0, 1) := by decide +kernel
theorem dX9_init_41 : decode cX9_init 41 = .ok (.bipush 24, 2) := by decide +kernel
theorem dX9_init_43 : decode cX9_init 43 = .ok (.newarray .int, 2) := by decide +kernel
theorem dX9_init_45 : decode cX9_init 45 = .ok (.putfield 28, 3) := by decide +kernel
theorem dX9_init_48 : decode cX9_init 48 = .ok (.aload_n 0, 1) := by decide +kernel
theorem dX9_init_49 : decode cX9_init 49 = .ok (.bipush 24, 2) := by decide +kernel
theorem dX9_init_51 : decode cX9_init 51 = .ok (.newarray .int, 2) := by decide +kernel
theorem dX9_init_53 : decode cX9_init 53 = .ok (.putfield 31, 3) := by decide +kernel
theorem dX9_init_56 : decode cX9_init 56 = .ok (.aload_n 0, 1) := by decide +kernel
theorem dX9_init_57 : decode cX9_init 57 = .ok (.getfield 28, 3) := by decide +kernel
theorem dX9_init_60 : decode cX9_init 60 = .ok (.iconst (-1), 1) := by decide +kernel
theorem dX9_init_61 : decode cX9_init 61 = .ok (.invokestatic 34, 3) := by decide +kernel
theorem dX9_init_64 : decode cX9_init 64 = .ok (.return_, 1) := by decide +kernel
theorem dX9_has_0 : decode cX9_has 0 = .ok (.iload_n 1, 1) := by decide +kernel
theorem dX9_has_1 : decode cX9_has 1 = .ok (.ifCond .lt 23, 3) := by decide +kernel
theorem dX9_has_4 : decode cX9_has 4 = .ok (.iload_n 1, 1) := by decide +kernel
theorem dX9_has_5 : decode cX9_has 5 = .ok (.bipush 24, 2) := by decide +kernel
theorem dX9_has_7 : decode cX9_has 7 = .ok (.if_icmp .ge 17, 3) := by decide +kernel
theorem dX9_has_10 : decode cX9_has 10 = .ok (.aload_n 0, 1) := by decide +kernel
theorem dX9_has_11 : decode cX9_has 11 = .ok (.getfield 28, 3) := by decide +kernel
theorem dX9_has_14 : decode cX9_has 14 = .ok (.iload_n 1, 1) := by decide +kernel
theorem dX9_has_15 : decode cX9_has 15 = .ok (.iaload, 1) := by decide +kernel
theorem dX9_has_16 : decode cX9_has 16 = .ok (.iconst (-1), 1) := by decide +kernel
theorem dX9_has_17 : decode cX9_has 17 = .ok (.if_icmp .eq 7, 3) := by decide +kernel
theorem dX9_has_20 : decode cX9_has 20 = .ok (.iconst 1, 1) := by decide +kernel
theorem dX9_has_21 : decode cX9_has 21 = .ok (.goto 4, 3) := by decide +kernel
theorem dX9_has_24 : decode cX9_has 24 = .ok (.iconst 0, 1) := by decide +kernel
theorem dX9_has_25 : decode cX9_has 25 = .ok (.ireturn, 1) := by decide +kernel
theorem dX9_isCounted_0 : decode cX9_isCounted 0 = .ok (.aload_n 0, 1) := by decide +kernel
theorem dX9_isCounted_1 : decode cX9_isCounted 1 = .ok (.iload_n 1, 1) := by decide +kernel
theorem dX9_isCounted_2 : decode cX9_isCounted 2 = .ok (.invokevirtual 40, 3) := by decide +kernel
theorem dX9_isCounted_5 : decode cX9_isCounted 5 = .ok (.ifCond .eq 13, 3) := by decide +kernel
theorem dX9_isCounted_8 : decode cX9_isCounted 8 = .ok (.aload_n 0, 1) := by decide +kernel
theorem dX9_isCounted_9 : decode cX9_isCounted 9 = .ok (.getfield 28, 3) := by decide +kernel
theorem dX9_isCounted_12 : decode cX9_isCounted 12 = .ok (.iload_n 1, 1) := by decide +kernel
theorem dX9_isCounted_13 : decode cX9_isCounted 13 = .ok (.iaload, 1) := by decide +kernel
theorem dX9_isCounted_14 : decode cX9_isCounted 14 = .ok (.iconst 3, 1) := by decide +kernel
theorem dX9_isCounted_15 : decode cX9_isCounted 15 = .ok (.if_icmp .ne 5, 3) := by decide +kernel
theorem dX9_isCounted_18 : decode cX9_isCounted 18 = .ok (.iconst 0, 1) := by decide +kernel
theorem dX9_isCounted_19 : decode cX9_isCounted 19 = .ok (.ireturn, 1) := by decide +kernel
theorem dX9_isCounted_20 : decode cX9_isCounted 20 = .ok (.aload_n 0, 1) := by decide +kernel
theorem dX9_isCounted_21 : decode cX9_isCounted 21 = .ok (.getfield 28, 3) := by decide +kernel
theorem dX9_isCounted_24 : decode cX9_isCounted 24 = .ok (.iload_n 1, 1) := by decide +kernel
theorem dX9_isCounted_25 : decode cX9_isCounted 25 = .ok (.iaload, 1) := by decide +kernel
theorem dX9_isCounted_26 : decode cX9_isCounted 26 = .ok (.iconst 4, 1) := by decide +kernel
theorem dX9_isCounted_27 : decode cX9_isCounted 27 = .ok (.if_icmp .ne 20, 3) := by decide +kernel
theorem dX9_isCounted_30 : decode cX9_isCounted 30 = .ok (.aload_n 0, 1) := by decide +kernel
theorem dX9_isCounted_31 : decode cX9_isCounted 31 = .ok (.getfield 31, 3) := by decide +kernel
theorem dX9_isCounted_34 : decode cX9_isCounted 34 = .ok (.iload_n 1, 1) := by decide +kernel
theorem dX9_isCounted_35 : decode cX9_isCounted 35 = .ok (.iaload, 1) := by decide +kernel
theorem dX9_isCounted_36 : decode cX9_isCounted 36 = .ok (.aload_n 0, 1) := by decide +kernel
theorem dX9_isCounted_37 : decode cX9_isCounted 37 = .ok (.getfield 44, 3) := by decide +kernel
theorem dX9_isCounted_40 : decode cX9_isCounted 40 = .ok (.ishr, 1) := by decide +kernel
theorem dX9_isCounted_41 : decode cX9_isCounted 41 = .ok (.iconst 1, 1) := by decide +kernel
theorem dX9_isCounted_42 : decode cX9_isCounted 42 = .ok (.iand, 1) := by decide +kernel
theorem dX9_isCounted_43 : decode cX9_isCounted 43 = .ok (.iconst 1, 1) := by decide +kernel
theorem dX9_isCounted_44 : decode cX9_isCounted 44 = .ok (.if_icmp .ne 7, 3) := by decide +kernel
theorem dX9_isCounted_47 : decode cX9_isCounted 47 = .ok (.iconst 1, 1) := by decide +kernel
theorem dX9_isCounted_48 : decode cX9_isCounted 48 = .ok (.goto 4, 3) := by decide +kernel
theorem dX9_isCounted_51 : decode cX9_isCounted 51 = .ok (.iconst 0, 1) := by decide +kernel
theorem dX9_isCounted_52 : decode cX9_isCounted 52 = .ok (.ireturn, 1) := by decide +kernel
theorem dX9_takenOff_0 : decode cX9_takenOff 0 = .ok (.aload_n 0, 1) := by decide +kernel
theorem dX9_takenOff_1 : decode cX9_takenOff 1 = .ok (.iload_n 1, 1) := by decide +kernel
theorem dX9_takenOff_2 : decode cX9_takenOff 2 = .ok (.invokevirtual 40, 3) := by decide +kernel
theorem dX9_takenOff_5 : decode cX9_takenOff 5 = .ok (.ifCond .eq 22, 3) := by decide +kernel
theorem dX9_takenOff_8 : decode cX9_takenOff 8 = .ok (.aload_n 0, 1) := by decide +kernel
theorem dX9_takenOff_9 : decode cX9_takenOff 9 = .ok (.getfield 28, 3) := by decide +kernel
theorem dX9_takenOff_12 : decode cX9_takenOff 12 = .ok (.iload_n 1, 1) := by decide +kernel
theorem dX9_takenOff_13 : decode cX9_takenOff 13 = .ok (.iaload, 1) := by decide +kernel
theorem dX9_takenOff_14 : decode cX9_takenOff 14 = .ok (.iconst 1, 1) := by decide +kernel
theorem dX9_takenOff_15 : decode cX9_takenOff 15 = .ok (.if_icmp .ne 12, 3) := by decide +kernel
theorem dX9_takenOff_18 : decode cX9_takenOff 18 = .ok (.aload_n 0, 1) := by decide +kernel
theorem dX9_takenOff_19 : decode cX9_takenOff 19 = .ok (.getfield 31, 3) := by decide +kernel
theorem dX9_takenOff_22 : decode cX9_takenOff 22 = .ok (.iload_n 1, 1) := by decide +kernel
theorem dX9_takenOff_23 : decode cX9_takenOff 23 = .ok (.iaload, 1) := by decide +kernel
theorem dX9_takenOff_24 : decode cX9_takenOff 24 = .ok (.goto 4, 3) := by decide +kernel
theorem dX9_takenOff_27 : decode cX9_takenOff 27 = .ok (.iconst 0, 1) := by decide +kernel
theorem dX9_takenOff_28 : decode cX9_takenOff 28 = .ok (.ireturn, 1) := by decide +kernel
theorem dX9_square_0 : decode cX9_square 0 = .ok (.aload_n 0, 1) := by decide +kernel
theorem dX9_square_1 : decode cX9_square 1 = .ok (.getfield 22, 3) := by decide +kernel
theorem dX9_square_4 : decode cX9_square 4 = .ok (.iload_n 1, 1) := by decide +kernel
theorem dX9_square_5 : decode cX9_square 5 = .ok (.iaload, 1) := by decide +kernel
theorem dX9_square_6 : decode cX9_square 6 = .ok (.aload_n 0, 1) := by decide +kernel
theorem dX9_square_7 : decode cX9_square 7 = .ok (.getfield 22, 3) := by decide +kernel
theorem dX9_square_10 : decode cX9_square 10 = .ok (.iload_n 2, 1) := by decide +kernel
theorem dX9_square_11 : decode cX9_square 11 = .ok (.iaload, 1) := by decide +kernel
theorem dX9_square_12 : decode cX9_square 12 = .ok (.isub, 1) := by decide +kernel
theorem dX9_square_13 : decode cX9_square 13 = .ok (.istore_n 3, 1) := by decide +kernel
theorem dX9_square_14 : decode cX9_square 14 = .ok (.aload_n 0, 1) := by decide +kernel
theorem dX9_square_15 : decode cX9_square 15 = .ok (.getfield 25, 3) := by decide +kernel
theorem dX9_square_18 : decode cX9_square 18 = .ok (.iload_n 1, 1) := by decide +kernel
theorem dX9_square_19 : decode cX9_square 19 = .ok (.iaload, 1) := by decide +kernel
theorem dX9_square_20 : decode cX9_square 20 = .ok (.aload_n 0, 1) := by decide +kernel
theorem dX9_square_21 : decode cX9_square 21 = .ok (.getfield 25, 3) := by decide +kernel
theorem dX9_square_24 : decode cX9_square 24 = .ok (.iload_n 2, 1) := by decide +kernel
theorem dX9_square_25 : decode cX9_square 25 = .ok (.iaload, 1) := by decide +kernel
theorem dX9_square_26 : decode cX9_square 26 = .ok (.isub, 1) := by decide +kernel
theorem dX9_square_27 : decode cX9_square 27 = .ok (.istore 4, 2) := by decide +kernel
theorem dX9_square_29 : decode cX9_square 29 = .ok (.iload_n 3, 1) := by decide +kernel
theorem dX9_square_30 : decode cX9_square 30 = .ok (.iload_n 3, 1) := by decide +kernel
theorem dX9_square_31 : decode cX9_square 31 = .ok (.imul, 1) := by decide +kernel
theorem dX9_square_32 : decode cX9_square 32 = .ok (.iload 4, 2) := by decide +kernel
theorem dX9_square_34 : decode cX9_square 34 = .ok (.iload 4, 2) := by decide +kernel
theorem dX9_square_36 : decode cX9_square 36 = .ok (.imul, 1) := by decide +kernel
theorem dX9_square_37 : decode cX9_square 37 = .ok (.iadd, 1) := by decide +kernel
theorem dX9_square_38 : decode cX9_square 38 = .ok (.ireturn, 1) := by decide +kernel
theorem dX9_turn_0 : decode cX9_turn 0 = .ok (.aload_n 0, 1) := by decide +kernel
theorem dX9_turn_1 : decode cX9_turn 1 = .ok (.getfield 22, 3) := by decide +kernel
theorem dX9_turn_4 : decode cX9_turn 4 = .ok (.iload_n 2, 1) := by decide +kernel
theorem dX9_turn_5 : decode cX9_turn 5 = .ok (.iaload, 1) := by decide +kernel
theorem dX9_turn_6 : decode cX9_turn 6 = .ok (.aload_n 0, 1) := by decide +kernel
theorem dX9_turn_7 : decode cX9_turn 7 = .ok (.getfield 22, 3) := by decide +kernel
theorem dX9_turn_10 : decode cX9_turn 10 = .ok (.iload_n 1, 1) := by decide +kernel
theorem dX9_turn_11 : decode cX9_turn 11 = .ok (.iaload, 1) := by decide +kernel
theorem dX9_turn_12 : decode cX9_turn 12 = .ok (.isub, 1) := by decide +kernel
theorem dX9_turn_13 : decode cX9_turn 13 = .ok (.aload_n 0, 1) := by decide +kernel
theorem dX9_turn_14 : decode cX9_turn 14 = .ok (.getfield 25, 3) := by decide +kernel
theorem dX9_turn_17 : decode cX9_turn 17 = .ok (.iload_n 3, 1) := by decide +kernel
theorem dX9_turn_18 : decode cX9_turn 18 = .ok (.iaload, 1) := by decide +kernel
theorem dX9_turn_19 : decode cX9_turn 19 = .ok (.aload_n 0, 1) := by decide +kernel
theorem dX9_turn_20 : decode cX9_turn 20 = .ok (.getfield 25, 3) := by decide +kernel
theorem dX9_turn_23 : decode cX9_turn 23 = .ok (.iload_n 1, 1) := by decide +kernel
theorem dX9_turn_24 : decode cX9_turn 24 = .ok (.iaload, 1) := by decide +kernel
theorem dX9_turn_25 : decode cX9_turn 25 = .ok (.isub, 1) := by decide +kernel
theorem dX9_turn_26 : decode cX9_turn 26 = .ok (.imul, 1) := by decide +kernel
theorem dX9_turn_27 : decode cX9_turn 27 = .ok (.aload_n 0, 1) := by decide +kernel
theorem dX9_turn_28 : decode cX9_turn 28 = .ok (.getfield 25, 3) := by decide +kernel
theorem dX9_turn_31 : decode cX9_turn 31 = .ok (.iload_n 2, 1) := by decide +kernel
theorem dX9_turn_32 : decode cX9_turn 32 = .ok (.iaload, 1) := by decide +kernel
theorem dX9_turn_33 : decode cX9_turn 33 = .ok (.aload_n 0, 1) := by decide +kernel
theorem dX9_turn_34 : decode cX9_turn 34 = .ok (.getfield 25, 3) := by decide +kernel
theorem dX9_turn_37 : decode cX9_turn 37 = .ok (.iload_n 1, 1) := by decide +kernel
theorem dX9_turn_38 : decode cX9_turn 38 = .ok (.iaload, 1) := by decide +kernel
theorem dX9_turn_39 : decode cX9_turn 39 = .ok (.isub, 1) := by decide +kernel
theorem dX9_turn_40 : decode cX9_turn 40 = .ok (.aload_n 0, 1) := by decide +kernel
theorem dX9_turn_41 : decode cX9_turn 41 = .ok (.getfield 22, 3) := by decide +kernel
theorem dX9_turn_44 : decode cX9_turn 44 = .ok (.iload_n 3, 1) := by decide +kernel
theorem dX9_turn_45 : decode cX9_turn 45 = .ok (.iaload, 1) := by decide +kernel
theorem dX9_turn_46 : decode cX9_turn 46 = .ok (.aload_n 0, 1) := by decide +kernel
theorem dX9_turn_47 : decode cX9_turn 47 = .ok (.getfield 22, 3) := by decide +kernel
theorem dX9_turn_50 : decode cX9_turn 50 = .ok (.iload_n 1, 1) := by decide +kernel
theorem dX9_turn_51 : decode cX9_turn 51 = .ok (.iaload, 1) := by decide +kernel
theorem dX9_turn_52 : decode cX9_turn 52 = .ok (.isub, 1) := by decide +kernel
theorem dX9_turn_53 : decode cX9_turn 53 = .ok (.imul, 1) := by decide +kernel
theorem dX9_turn_54 : decode cX9_turn 54 = .ok (.isub, 1) := by decide +kernel
theorem dX9_turn_55 : decode cX9_turn 55 = .ok (.ireturn, 1) := by decide +kernel
theorem dX9_mayBe_0 : decode cX9_mayBe 0 = .ok (.iload_n 1, 1) := by decide +kernel
theorem dX9_mayBe_1 : decode cX9_mayBe 1 = .ok (.ifCond .lt 36, 3) := by decide +kernel
theorem dX9_mayBe_4 : decode cX9_mayBe 4 = .ok (.iload_n 1, 1) := by decide +kernel
theorem dX9_mayBe_5 : decode cX9_mayBe 5 = .ok (.aload_n 0, 1) := by decide +kernel
theorem dX9_mayBe_6 : decode cX9_mayBe 6 = .ok (.getfield 9, 3) := by decide +kernel
theorem dX9_mayBe_9 : decode cX9_mayBe 9 = .ok (.if_icmp .gt 28, 3) := by decide +kernel
theorem dX9_mayBe_12 : decode cX9_mayBe 12 = .ok (.iload_n 2, 1) := by decide +kernel
theorem dX9_mayBe_13 : decode cX9_mayBe 13 = .ok (.ifCond .lt 24, 3) := by decide +kernel
theorem dX9_mayBe_16 : decode cX9_mayBe 16 = .ok (.iload_n 2, 1) := by decide +kernel
theorem dX9_mayBe_17 : decode cX9_mayBe 17 = .ok (.aload_n 0, 1) := by decide +kernel
theorem dX9_mayBe_18 : decode cX9_mayBe 18 = .ok (.getfield 15, 3) := by decide +kernel
theorem dX9_mayBe_21 : decode cX9_mayBe 21 = .ok (.if_icmp .gt 16, 3) := by decide +kernel
theorem dX9_mayBe_24 : decode cX9_mayBe 24 = .ok (.iload_n 3, 1) := by decide +kernel
theorem dX9_mayBe_25 : decode cX9_mayBe 25 = .ok (.iload 4, 2) := by decide +kernel
theorem dX9_mayBe_27 : decode cX9_mayBe 27 = .ok (.invokestatic 47, 3) := by decide +kernel
theorem dX9_mayBe_30 : decode cX9_mayBe 30 = .ok (.ifCond .eq 7, 3) := by decide +kernel
theorem dX9_mayBe_33 : decode cX9_mayBe 33 = .ok (.iconst 1, 1) := by decide +kernel
theorem dX9_mayBe_34 : decode cX9_mayBe 34 = .ok (.goto 4, 3) := by decide +kernel
theorem dX9_mayBe_37 : decode cX9_mayBe 37 = .ok (.iconst 0, 1) := by decide +kernel
theorem dX9_mayBe_38 : decode cX9_mayBe 38 = .ok (.ireturn, 1) := by decide +kernel
theorem dX9_isTaken_0 : decode cX9_isTaken 0 = .ok (.iconst 0, 1) := by decide +kernel
theorem dX9_isTaken_1 : decode cX9_isTaken 1 = .ok (.istore_n 3, 1) := by decide +kernel
theorem dX9_isTaken_2 : decode cX9_isTaken 2 = .ok (.iload_n 3, 1) := by decide +kernel
theorem dX9_isTaken_3 : decode cX9_isTaken 3 = .ok (.bipush 24, 2) := by decide +kernel
theorem dX9_isTaken_5 : decode cX9_isTaken 5 = .ok (.if_icmp .ge 39, 3) := by decide +kernel
theorem dX9_isTaken_8 : decode cX9_isTaken 8 = .ok (.aload_n 0, 1) := by decide +kernel
theorem dX9_isTaken_9 : decode cX9_isTaken 9 = .ok (.iload_n 3, 1) := by decide +kernel
theorem dX9_isTaken_10 : decode cX9_isTaken 10 = .ok (.invokevirtual 40, 3) := by decide +kernel
theorem dX9_isTaken_13 : decode cX9_isTaken 13 = .ok (.ifCond .eq 25, 3) := by decide +kernel
theorem dX9_isTaken_16 : decode cX9_isTaken 16 = .ok (.aload_n 0, 1) := by decide +kernel
theorem dX9_isTaken_17 : decode cX9_isTaken 17 = .ok (.getfield 22, 3) := by decide +kernel
theorem dX9_isTaken_20 : decode cX9_isTaken 20 = .ok (.iload_n 3, 1) := by decide +kernel
theorem dX9_isTaken_21 : decode cX9_isTaken 21 = .ok (.iaload, 1) := by decide +kernel
theorem dX9_isTaken_22 : decode cX9_isTaken 22 = .ok (.iload_n 1, 1) := by decide +kernel
theorem dX9_isTaken_23 : decode cX9_isTaken 23 = .ok (.if_icmp .ne 15, 3) := by decide +kernel
theorem dX9_isTaken_26 : decode cX9_isTaken 26 = .ok (.aload_n 0, 1) := by decide +kernel
theorem dX9_isTaken_27 : decode cX9_isTaken 27 = .ok (.getfield 25, 3) := by decide +kernel
theorem dX9_isTaken_30 : decode cX9_isTaken 30 = .ok (.iload_n 3, 1) := by decide +kernel
theorem dX9_isTaken_31 : decode cX9_isTaken 31 = .ok (.iaload, 1) := by decide +kernel
theorem dX9_isTaken_32 : decode cX9_isTaken 32 = .ok (.iload_n 2, 1) := by decide +kernel
theorem dX9_isTaken_33 : decode cX9_isTaken 33 = .ok (.if_icmp .ne 5, 3) := by decide +kernel
theorem dX9_isTaken_36 : decode cX9_isTaken 36 = .ok (.iconst 1, 1) := by decide +kernel
theorem dX9_isTaken_37 : decode cX9_isTaken 37 = .ok (.ireturn, 1) := by decide +kernel
theorem dX9_isTaken_38 : decode cX9_isTaken 38 = .ok (.iinc 3 1, 3) := by decide +kernel
theorem dX9_isTaken_41 : decode cX9_isTaken 41 = .ok (.goto (-39), 3) := by decide +kernel
theorem dX9_isTaken_44 : decode cX9_isTaken 44 = .ok (.iconst 0, 1) := by decide +kernel
theorem dX9_isTaken_45 : decode cX9_isTaken 45 = .ok (.ireturn, 1) := by decide +kernel
theorem dX9_leastFree_0 : decode cX9_leastFree 0 = .ok (.iconst 0, 1) := by decide +kernel
theorem dX9_leastFree_1 : decode cX9_leastFree 1 = .ok (.istore_n 1, 1) := by decide +kernel
theorem dX9_leastFree_2 : decode cX9_leastFree 2 = .ok (.iload_n 1, 1) := by decide +kernel
theorem dX9_leastFree_3 : decode cX9_leastFree 3 = .ok (.bipush 24, 2) := by decide +kernel
theorem dX9_leastFree_5 : decode cX9_leastFree 5 = .ok (.if_icmp .ge 19, 3) := by decide +kernel
theorem dX9_leastFree_8 : decode cX9_leastFree 8 = .ok (.aload_n 0, 1) := by decide +kernel
theorem dX9_leastFree_9 : decode cX9_leastFree 9 = .ok (.iload_n 1, 1) := by decide +kernel
theorem dX9_leastFree_10 : decode cX9_leastFree 10 = .ok (.invokevirtual 40, 3) := by decide +kernel
theorem dX9_leastFree_13 : decode cX9_leastFree 13 = .ok (.ifCond .ne 5, 3) := by decide +kernel
theorem dX9_leastFree_16 : decode cX9_leastFree 16 = .ok (.iload_n 1, 1) := by decide +kernel
theorem dX9_leastFree_17 : decode cX9_leastFree 17 = .ok (.ireturn, 1) := by decide +kernel
theorem dX9_leastFree_18 : decode cX9_leastFree 18 = .ok (.iinc 1 1, 3) := by decide +kernel
theorem dX9_leastFree_21 : decode cX9_leastFree 21 = .ok (.goto (-19), 3) := by decide +kernel
theorem dX9_leastFree_24 : decode cX9_leastFree 24 = .ok (.iconst (-1), 1) := by decide +kernel
theorem dX9_leastFree_25 : decode cX9_leastFree 25 = .ok (.ireturn, 1) := by decide +kernel
theorem dX9_fitInto_0 : decode cX9_fitInto 0 = .ok (.iload_n 1, 1) := by decide +kernel
theorem dX9_fitInto_1 : decode cX9_fitInto 1 = .ok (.iconst 1, 1) := by decide +kernel
theorem dX9_fitInto_2 : decode cX9_fitInto 2 = .ok (.if_icmp .lt 22, 3) := by decide +kernel
theorem dX9_fitInto_5 : decode cX9_fitInto 5 = .ok (.iload_n 1, 1) := by decide +kernel
theorem dX9_fitInto_6 : decode cX9_fitInto 6 = .ok (.sipush 1000, 3) := by decide +kernel
theorem dX9_fitInto_9 : decode cX9_fitInto 9 = .ok (.if_icmp .gt 15, 3) := by decide +kernel
theorem dX9_fitInto_12 : decode cX9_fitInto 12 = .ok (.iload_n 2, 1) := by decide +kernel
theorem dX9_fitInto_13 : decode cX9_fitInto 13 = .ok (.iconst 1, 1) := by decide +kernel
theorem dX9_fitInto_14 : decode cX9_fitInto 14 = .ok (.if_icmp .lt 10, 3) := by decide +kernel
theorem dX9_fitInto_17 : decode cX9_fitInto 17 = .ok (.iload_n 2, 1) := by decide +kernel
theorem dX9_fitInto_18 : decode cX9_fitInto 18 = .ok (.sipush 1000, 3) := by decide +kernel
theorem dX9_fitInto_21 : decode cX9_fitInto 21 = .ok (.if_icmp .le 5, 3) := by decide +kernel
theorem dX9_fitInto_24 : decode cX9_fitInto 24 = .ok (.iconst 0, 1) := by decide +kernel
theorem dX9_fitInto_25 : decode cX9_fitInto 25 = .ok (.ireturn, 1) := by decide +kernel
theorem dX9_fitInto_26 : decode cX9_fitInto 26 = .ok (.iconst 0, 1) := by decide +kernel
theorem dX9_fitInto_27 : decode cX9_fitInto 27 = .ok (.istore_n 3, 1) := by decide +kernel
theorem dX9_fitInto_28 : decode cX9_fitInto 28 = .ok (.iload_n 3, 1) := by decide +kernel
theorem dX9_fitInto_29 : decode cX9_fitInto 29 = .ok (.bipush 24, 2) := by decide +kernel
theorem dX9_fitInto_31 : decode cX9_fitInto 31 = .ok (.if_icmp .ge 39, 3) := by decide +kernel
theorem dX9_fitInto_34 : decode cX9_fitInto 34 = .ok (.aload_n 0, 1) := by decide +kernel
theorem dX9_fitInto_35 : decode cX9_fitInto 35 = .ok (.iload_n 3, 1) := by decide +kernel
theorem dX9_fitInto_36 : decode cX9_fitInto 36 = .ok (.invokevirtual 40, 3) := by decide +kernel
theorem dX9_fitInto_39 : decode cX9_fitInto 39 = .ok (.ifCond .eq 25, 3) := by decide +kernel
theorem dX9_fitInto_42 : decode cX9_fitInto 42 = .ok (.aload_n 0, 1) := by decide +kernel
theorem dX9_fitInto_43 : decode cX9_fitInto 43 = .ok (.getfield 22, 3) := by decide +kernel
theorem dX9_fitInto_46 : decode cX9_fitInto 46 = .ok (.iload_n 3, 1) := by decide +kernel
theorem dX9_fitInto_47 : decode cX9_fitInto 47 = .ok (.iaload, 1) := by decide +kernel
theorem dX9_fitInto_48 : decode cX9_fitInto 48 = .ok (.iload_n 1, 1) := by decide +kernel
theorem dX9_fitInto_49 : decode cX9_fitInto 49 = .ok (.if_icmp .gt 13, 3) := by decide +kernel
theorem dX9_fitInto_52 : decode cX9_fitInto 52 = .ok (.aload_n 0, 1) := by decide +kernel
theorem dX9_fitInto_53 : decode cX9_fitInto 53 = .ok (.getfield 25, 3) := by decide +kernel
theorem dX9_fitInto_56 : decode cX9_fitInto 56 = .ok (.iload_n 3, 1) := by decide +kernel
theorem dX9_fitInto_57 : decode cX9_fitInto 57 = .ok (.iaload, 1) := by decide +kernel
theorem dX9_fitInto_58 : decode cX9_fitInto 58 = .ok (.iload_n 2, 1) := by decide +kernel
theorem dX9_fitInto_59 : decode cX9_fitInto 59 = .ok (.if_icmp .le 5, 3) := by decide +kernel
theorem dX9_fitInto_62 : decode cX9_fitInto 62 = .ok (.iconst 0, 1) := by decide +kernel
theorem dX9_fitInto_63 : decode cX9_fitInto 63 = .ok (.ireturn, 1) := by decide +kernel
theorem dX9_fitInto_64 : decode cX9_fitInto 64 = .ok (.iinc 3 1, 3) := by decide +kernel
theorem dX9_fitInto_67 : decode cX9_fitInto 67 = .ok (.goto (-39), 3) := by decide +kernel
theorem dX9_fitInto_70 : decode cX9_fitInto 70 = .ok (.iconst 1, 1) := by decide +kernel
theorem dX9_fitInto_71 : decode cX9_fitInto 71 = .ok (.ireturn, 1) := by decide +kernel
theorem dX9_resize_0 : decode cX9_resize 0 = .ok (.aload_n 0, 1) := by decide +kernel
theorem dX9_resize_1 : decode cX9_resize 1 = .ok (.iload_n 1, 1) := by decide +kernel
theorem dX9_resize_2 : decode cX9_resize 2 = .ok (.putfield 9, 3) := by decide +kernel
theorem dX9_resize_5 : decode cX9_resize 5 = .ok (.aload_n 0, 1) := by decide +kernel
theorem dX9_resize_6 : decode cX9_resize 6 = .ok (.iload_n 2, 1) := by decide +kernel
theorem dX9_resize_7 : decode cX9_resize 7 = .ok (.putfield 15, 3) := by decide +kernel
theorem dX9_resize_10 : decode cX9_resize 10 = .ok (.aload_n 0, 1) := by decide +kernel
theorem dX9_resize_11 : decode cX9_resize 11 = .ok (.invokevirtual 51, 3) := by decide +kernel
theorem dX9_resize_14 : decode cX9_resize 14 = .ok (.return_, 1) := by decide +kernel
theorem dX9_turnTo_0 : decode cX9_turnTo 0 = .ok (.aload_n 0, 1) := by decide +kernel
theorem dX9_turnTo_1 : decode cX9_turnTo 1 = .ok (.iload_n 1, 1) := by decide +kernel
theorem dX9_turnTo_2 : decode cX9_turnTo 2 = .ok (.putfield 44, 3) := by decide +kernel
theorem dX9_turnTo_5 : decode cX9_turnTo 5 = .ok (.aload_n 0, 1) := by decide +kernel
theorem dX9_turnTo_6 : decode cX9_turnTo 6 = .ok (.invokevirtual 51, 3) := by decide +kernel
theorem dX9_turnTo_9 : decode cX9_turnTo 9 = .ok (.return_, 1) := by decide +kernel
theorem dX9_put_0 : decode cX9_put 0 = .ok (.iload_n 1, 1) := by decide +kernel
theorem dX9_put_1 : decode cX9_put 1 = .ok (.ifCond .lt 43, 3) := by decide +kernel
theorem dX9_put_4 : decode cX9_put 4 = .ok (.iload_n 1, 1) := by decide +kernel
theorem dX9_put_5 : decode cX9_put 5 = .ok (.bipush 24, 2) := by decide +kernel
theorem dX9_put_7 : decode cX9_put 7 = .ok (.if_icmp .ge 37, 3) := by decide +kernel
theorem dX9_put_10 : decode cX9_put 10 = .ok (.aload_n 0, 1) := by decide +kernel
theorem dX9_put_11 : decode cX9_put 11 = .ok (.getfield 22, 3) := by decide +kernel
theorem dX9_put_14 : decode cX9_put 14 = .ok (.iload_n 1, 1) := by decide +kernel
theorem dX9_put_15 : decode cX9_put 15 = .ok (.iload_n 2, 1) := by decide +kernel
theorem dX9_put_16 : decode cX9_put 16 = .ok (.iastore, 1) := by decide +kernel
theorem dX9_put_17 : decode cX9_put 17 = .ok (.aload_n 0, 1) := by decide +kernel
theorem dX9_put_18 : decode cX9_put 18 = .ok (.getfield 25, 3) := by decide +kernel
theorem dX9_put_21 : decode cX9_put 21 = .ok (.iload_n 1, 1) := by decide +kernel
theorem dX9_put_22 : decode cX9_put 22 = .ok (.iload_n 3, 1) := by decide +kernel
theorem dX9_put_23 : decode cX9_put 23 = .ok (.iastore, 1) := by decide +kernel
theorem dX9_put_24 : decode cX9_put 24 = .ok (.aload_n 0, 1) := by decide +kernel
theorem dX9_put_25 : decode cX9_put 25 = .ok (.getfield 28, 3) := by decide +kernel
theorem dX9_put_28 : decode cX9_put 28 = .ok (.iload_n 1, 1) := by decide +kernel
theorem dX9_put_29 : decode cX9_put 29 = .ok (.iload 4, 2) := by decide +kernel
theorem dX9_put_31 : decode cX9_put 31 = .ok (.iastore, 1) := by decide +kernel
theorem dX9_put_32 : decode cX9_put 32 = .ok (.aload_n 0, 1) := by decide +kernel
theorem dX9_put_33 : decode cX9_put 33 = .ok (.getfield 31, 3) := by decide +kernel
theorem dX9_put_36 : decode cX9_put 36 = .ok (.iload_n 1, 1) := by decide +kernel
theorem dX9_put_37 : decode cX9_put 37 = .ok (.iload 5, 2) := by decide +kernel
theorem dX9_put_39 : decode cX9_put 39 = .ok (.iastore, 1) := by decide +kernel
theorem dX9_put_40 : decode cX9_put 40 = .ok (.aload_n 0, 1) := by decide +kernel
theorem dX9_put_41 : decode cX9_put 41 = .ok (.invokevirtual 51, 3) := by decide +kernel
theorem dX9_put_44 : decode cX9_put 44 = .ok (.return_, 1) := by decide +kernel
theorem dX9_countAnew_0 : decode cX9_countAnew 0 = .ok (.aload_n 0, 1) := by decide +kernel
theorem dX9_countAnew_1 : decode cX9_countAnew 1 = .ok (.dup, 1) := by decide +kernel
theorem dX9_countAnew_2 : decode cX9_countAnew 2 = .ok (.getfield 54, 3) := by decide +kernel
theorem dX9_countAnew_5 : decode cX9_countAnew 5 = .ok (.iconst 1, 1) := by decide +kernel
theorem dX9_countAnew_6 : decode cX9_countAnew 6 = .ok (.iadd, 1) := by decide +kernel
theorem dX9_countAnew_7 : decode cX9_countAnew 7 = .ok (.putfield 54, 3) := by decide +kernel
theorem dX9_countAnew_10 : decode cX9_countAnew 10 = .ok (.aload_n 0, 1) := by decide +kernel
theorem dX9_countAnew_11 : decode cX9_countAnew 11 = .ok (.iconst 0, 1) := by decide +kernel
theorem dX9_countAnew_12 : decode cX9_countAnew 12 = .ok (.putfield 57, 3) := by decide +kernel
theorem dX9_countAnew_15 : decode cX9_countAnew 15 = .ok (.aload_n 0, 1) := by decide +kernel
theorem dX9_countAnew_16 : decode cX9_countAnew 16 = .ok (.iconst 0, 1) := by decide +kernel
theorem dX9_countAnew_17 : decode cX9_countAnew 17 = .ok (.putfield 60, 3) := by decide +kernel
theorem dX9_countAnew_20 : decode cX9_countAnew 20 = .ok (.iconst 0, 1) := by decide +kernel
theorem dX9_countAnew_21 : decode cX9_countAnew 21 = .ok (.istore_n 1, 1) := by decide +kernel
theorem dX9_countAnew_22 : decode cX9_countAnew 22 = .ok (.iload_n 1, 1) := by decide +kernel
theorem dX9_countAnew_23 : decode cX9_countAnew 23 = .ok (.bipush 24, 2) := by decide +kernel
theorem dX9_countAnew_25 : decode cX9_countAnew 25 = .ok (.if_icmp .ge 55, 3) := by decide +kernel
theorem dX9_countAnew_28 : decode cX9_countAnew 28 = .ok (.aload_n 0, 1) := by decide +kernel
theorem dX9_countAnew_29 : decode cX9_countAnew 29 = .ok (.iload_n 1, 1) := by decide +kernel
theorem dX9_countAnew_30 : decode cX9_countAnew 30 = .ok (.invokevirtual 40, 3) := by decide +kernel
theorem dX9_countAnew_33 : decode cX9_countAnew 33 = .ok (.ifCond .eq 13, 3) := by decide +kernel
theorem dX9_countAnew_36 : decode cX9_countAnew 36 = .ok (.aload_n 0, 1) := by decide +kernel
theorem dX9_countAnew_37 : decode cX9_countAnew 37 = .ok (.dup, 1) := by decide +kernel
theorem dX9_countAnew_38 : decode cX9_countAnew 38 = .ok (.getfield 57, 3) := by decide +kernel
theorem dX9_countAnew_41 : decode cX9_countAnew 41 = .ok (.iconst 1, 1) := by decide +kernel
theorem dX9_countAnew_42 : decode cX9_countAnew 42 = .ok (.iadd, 1) := by decide +kernel
theorem dX9_countAnew_43 : decode cX9_countAnew 43 = .ok (.putfield 57, 3) := by decide +kernel
theorem dX9_countAnew_46 : decode cX9_countAnew 46 = .ok (.aload_n 0, 1) := by decide +kernel
theorem dX9_countAnew_47 : decode cX9_countAnew 47 = .ok (.iload_n 1, 1) := by decide +kernel
theorem dX9_countAnew_48 : decode cX9_countAnew 48 = .ok (.invokevirtual 63, 3) := by decide +kernel
theorem dX9_countAnew_51 : decode cX9_countAnew 51 = .ok (.ifCond .eq 23, 3) := by decide +kernel
theorem dX9_countAnew_54 : decode cX9_countAnew 54 = .ok (.aload_n 0, 1) := by decide +kernel
theorem dX9_countAnew_55 : decode cX9_countAnew 55 = .ok (.getfield 18, 3) := by decide +kernel
theorem dX9_countAnew_58 : decode cX9_countAnew 58 = .ok (.aload_n 0, 1) := by decide +kernel
theorem dX9_countAnew_59 : decode cX9_countAnew 59 = .ok (.getfield 60, 3) := by decide +kernel
theorem dX9_countAnew_62 : decode cX9_countAnew 62 = .ok (.iload_n 1, 1) := by decide +kernel
theorem dX9_countAnew_63 : decode cX9_countAnew 63 = .ok (.iastore, 1) := by decide +kernel
theorem dX9_countAnew_64 : decode cX9_countAnew 64 = .ok (.aload_n 0, 1) := by decide +kernel
theorem dX9_countAnew_65 : decode cX9_countAnew 65 = .ok (.dup, 1) := by decide +kernel
theorem dX9_countAnew_66 : decode cX9_countAnew 66 = .ok (.getfield 60, 3) := by decide +kernel
theorem dX9_countAnew_69 : decode cX9_countAnew 69 = .ok (.iconst 1, 1) := by decide +kernel
theorem dX9_countAnew_70 : decode cX9_countAnew 70 = .ok (.iadd, 1) := by decide +kernel
theorem dX9_countAnew_71 : decode cX9_countAnew 71 = .ok (.putfield 60, 3) := by decide +kernel
theorem dX9_countAnew_74 : decode cX9_countAnew 74 = .ok (.iinc 1 1, 3) := by decide +kernel
theorem dX9_countAnew_77 : decode cX9_countAnew 77 = .ok (.goto (-55), 3) := by decide +kernel
theorem dX9_countAnew_80 : decode cX9_countAnew 80 = .ok (.return_, 1) := by decide +kernel
theorem dX10_init_0 : decode cX10_init 0 = .ok (.aload_n 0, 1) := by decide +kernel
theorem dX10_init_1 : decode cX10_init 1 = .ok (.invokespecial 1, 3) := by decide +kernel
theorem dX10_init_4 : decode cX10_init 4 = .ok (.aload_n 0, 1) := by decide +kernel
theorem dX10_init_5 : decode cX10_init 5 = .ok (.new 7, 3) := by decide +kernel
theorem dX10_init_8 : decode cX10_init 8 = .ok (.dup, 1) := by decide +kernel
theorem dX10_init_9 : decode cX10_init 9 = .ok (.invokespecial 9, 3) := by decide +kernel
theorem dX10_init_12 : decode cX10_init 12 = .ok (.putfield 10, 3) := by decide +kernel
theorem dX10_init_15 : decode cX10_init 15 = .ok (.aload_n 0, 1) := by decide +kernel
theorem dX10_init_16 : decode cX10_init 16 = .ok (.new 16, 3) := by decide +kernel
theorem dX10_init_19 : decode cX10_init 19 = .ok (.dup, 1) := by decide +kernel
theorem dX10_init_20 : decode cX10_init 20 = .ok (.invokespecial 18, 3) := by decide +kernel
theorem dX10_init_23 : decode cX10_init 23 = .ok (.putfield 19, 3) := by decide +kernel
theorem dX10_init_26 : decode cX10_init 26 = .ok (.aload_n 0, 1) := by decide +kernel
theorem dX10_init_27 : decode cX10_init 27 = .ok (.new 23, 3) := by decide +kernel
theorem dX10_init_30 : decode cX10_init 30 = .ok (.dup, 1) := by decide +kernel
theorem dX10_init_31 : decode cX10_init 31 = .ok (.invokespecial 25, 3) := by decide +kernel
theorem dX10_init_34 : decode cX10_init 34 = .ok (.putfield 26, 3) := by decide +kernel
theorem dX10_init_37 : decode cX10_init 37 = .ok (.aload_n 0, 1) := by decide +kernel
theorem dX10_init_38 : decode cX10_init 38 = .ok (.new 30, 3) := by decide +kernel
theorem dX10_init_41 : decode cX10_init 41 = .ok (.dup, 1) := by decide +kernel
theorem dX10_init_42 : decode cX10_init 42 = .ok (.aload_n 0, 1) := by decide +kernel
theorem dX10_init_43 : decode cX10_init 43 = .ok (.getfield 10, 3) := by decide +kernel
theorem dX10_init_46 : decode cX10_init 46 = .ok (.invokespecial 32, 3) := by decide +kernel
theorem dX10_init_49 : decode cX10_init 49 = .ok (.putfield 35, 3) := by decide +kernel
theorem dX10_init_52 : decode cX10_init 52 = .ok (.aload_n 0, 1) := by decide +kernel
theorem dX10_init_53 : decode cX10_init 53 = .ok (.new 39, 3) := by decide +kernel
theorem dX10_init_56 : decode cX10_init 56 = .ok (.dup, 1) := by decide +kernel
theorem dX10_init_57 : decode cX10_init 57 = .ok (.aload_n 0, 1) := by decide +kernel
theorem dX10_init_58 : decode cX10_init 58 = .ok (.getfield 10, 3) := by decide +kernel
theorem dX10_init_61 : decode cX10_init 61 = .ok (.invokespecial 41, 3) := by decide +kernel
theorem dX10_init_64 : decode cX10_init 64 = .ok (.putfield 42, 3) := by decide +kernel
theorem dX10_init_67 : decode cX10_init 67 = .ok (.aload_n 0, 1) := by decide +kernel
theorem dX10_init_68 : decode cX10_init 68 = .ok (.new 46, 3) := by decide +kernel
theorem dX10_init_71 : decode cX10_init 71 = .ok (.dup, 1) := by decide +kernel
theorem dX10_init_72 : decode cX10_init 72 = .ok (.aload_n 0, 1) := by decide +kernel
theorem dX10_init_73 : decode cX10_init 73 = .ok (.getfield 10, 3) := by decide +kernel
theorem dX10_init_76 : decode cX10_init 76 = .ok (.invokespecial 48, 3) := by decide +kernel
theorem dX10_init_79 : decode cX10_init 79 = .ok (.putfield 49, 3) := by decide +kernel
theorem dX10_init_82 : decode cX10_init 82 = .ok (.aload_n 0, 1) := by decide +kernel
theorem dX10_init_83 : decode cX10_init 83 = .ok (.new 53, 3) := by decide +kernel
theorem dX10_init_86 : decode cX10_init 86 = .ok (.dup, 1) := by decide +kernel
theorem dX10_init_87 : decode cX10_init 87 = .ok (.aload_n 0, 1) := by decide +kernel
theorem dX10_init_88 : decode cX10_init 88 = .ok (.getfield 10, 3) := by decide +kernel
theorem dX10_init_91 : decode cX10_init 91 = .ok (.invokespecial 55, 3) := by decide +kernel
theorem dX10_init_94 : decode cX10_init 94 = .ok (.putfield 56, 3) := by decide +kernel
theorem dX10_init_97 : decode cX10_init 97 = .ok (.aload_n 0, 1) := by decide +kernel
theorem dX10_init_98 : decode cX10_init 98 = .ok (.new 60, 3) := by decide +kernel
theorem dX10_init_101 : decode cX10_init 101 = .ok (.dup, 1) := by decide +kernel
theorem dX10_init_102 : decode cX10_init 102 = .ok (.aload_n 0, 1) := by decide +kernel
theorem dX10_init_103 : decode cX10_init 103 = .ok (.getfield 10, 3) := by decide +kernel
theorem dX10_init_106 : decode cX10_init 106 = .ok (.invokespecial 62, 3) := by decide +kernel
theorem dX10_init_109 : decode cX10_init 109 = .ok (.putfield 63, 3) := by decide +kernel
theorem dX10_init_112 : decode cX10_init 112 = .ok (.aload_n 0, 1) := by decide +kernel
theorem dX10_init_113 : decode cX10_init 113 = .ok (.new 67, 3) := by decide +kernel
theorem dX10_init_116 : decode cX10_init 116 = .ok (.dup, 1) := by decide +kernel
theorem dX10_init_117 : decode cX10_init 117 = .ok (.aload_n 0, 1) := by decide +kernel
theorem dX10_init_118 : decode cX10_init 118 = .ok (.getfield 10, 3) := by decide +kernel
theorem dX10_init_121 : decode cX10_init 121 = .ok (.invokespecial 69, 3) := by decide +kernel
theorem dX10_init_124 : decode cX10_init 124 = .ok (.putfield 70, 3) := by decide +kernel
theorem dX10_init_127 : decode cX10_init 127 = .ok (.aload_n 0, 1) := by decide +kernel
theorem dX10_init_128 : decode cX10_init 128 = .ok (.bipush 24, 2) := by decide +kernel
theorem dX10_init_130 : decode cX10_init 130 = .ok (.newarray .long, 2) := by decide +kernel
theorem dX10_init_132 : decode cX10_init 132 = .ok (.putfield 74, 3) := by decide +kernel
theorem dX10_init_135 : decode cX10_init 135 = .ok (.return_, 1) := by decide +kernel
theorem dX10_rectangle_0 : decode cX10_rectangle 0 = .ok (.aload_n 0, 1) := by decide +kernel
theorem dX10_rectangle_1 : decode cX10_rectangle 1 = .ok (.getfield 10, 3) := by decide +kernel
theorem dX10_rectangle_4 : decode cX10_rectangle 4 = .ok (.iload_n 1, 1) := by decide +kernel
theorem dX10_rectangle_5 : decode cX10_rectangle 5 = .ok (.iload_n 2, 1) := by decide +kernel
theorem dX10_rectangle_6 : decode cX10_rectangle 6 = .ok (.invokevirtual 78, 3) := by decide +kernel
theorem dX10_rectangle_9 : decode cX10_rectangle 9 = .ok (.ifCond .ne 5, 3) := by decide +kernel
theorem dX10_rectangle_12 : decode cX10_rectangle 12 = .ok (.iconst 0, 1) := by decide +kernel
theorem dX10_rectangle_13 : decode cX10_rectangle 13 = .ok (.ireturn, 1) := by decide +kernel
theorem dX10_rectangle_14 : decode cX10_rectangle 14 = .ok (.aload_n 0, 1) := by decide +kernel
theorem dX10_rectangle_15 : decode cX10_rectangle 15 = .ok (.getfield 19, 3) := by decide +kernel
theorem dX10_rectangle_18 : decode cX10_rectangle 18 = .ok (.aload_n 0, 1) := by decide +kernel
theorem dX10_rectangle_19 : decode cX10_rectangle 19 = .ok (.getfield 10, 3) := by decide +kernel
theorem dX10_rectangle_22 : decode cX10_rectangle 22 = .ok (.invokevirtual 82, 3) := by decide +kernel
theorem dX10_rectangle_25 : decode cX10_rectangle 25 = .ok (.aload_n 0, 1) := by decide +kernel
theorem dX10_rectangle_26 : decode cX10_rectangle 26 = .ok (.getfield 10, 3) := by decide +kernel
theorem dX10_rectangle_29 : decode cX10_rectangle 29 = .ok (.iload_n 1, 1) := by decide +kernel
theorem dX10_rectangle_30 : decode cX10_rectangle 30 = .ok (.iload_n 2, 1) := by decide +kernel
theorem dX10_rectangle_31 : decode cX10_rectangle 31 = .ok (.invokevirtual 85, 3) := by decide +kernel
