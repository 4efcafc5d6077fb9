theorem dX11_border_6 : decode cX11_border 6 = .ok (.ifCond .eq 12, 3) := by decide +kernel
theorem dX11_border_9 : decode cX11_border 9 = .ok (.aload_n 0, 1) := by decide +kernel
theorem dX11_border_10 : decode cX11_border 10 = .ok (.iload_n 1, 1) := by decide +kernel
theorem dX11_border_11 : decode cX11_border 11 = .ok (.iload_n 2, 1) := by decide +kernel
theorem dX11_border_12 : decode cX11_border 12 = .ok (.invokevirtual 244, 3) := by decide +kernel
theorem dX11_border_15 : decode cX11_border 15 = .ok (.goto 4, 3) := by decide +kernel
theorem dX11_border_18 : decode cX11_border 18 = .ok (.iconst (-1), 1) := by decide +kernel
theorem dX11_border_19 : decode cX11_border 19 = .ok (.ireturn, 1) := by decide +kernel
theorem dX11_end_0 : decode cX11_end 0 = .ok (.aload_n 0, 1) := by decide +kernel
theorem dX11_end_1 : decode cX11_end 1 = .ok (.iload_n 1, 1) := by decide +kernel
theorem dX11_end_2 : decode cX11_end 2 = .ok (.iload_n 2, 1) := by decide +kernel
theorem dX11_end_3 : decode cX11_end 3 = .ok (.invokevirtual 241, 3) := by decide +kernel
theorem dX11_end_6 : decode cX11_end 6 = .ok (.ifCond .eq 28, 3) := by decide +kernel
theorem dX11_end_9 : decode cX11_end 9 = .ok (.iload_n 3, 1) := by decide +kernel
theorem dX11_end_10 : decode cX11_end 10 = .ok (.ifCond .lt 24, 3) := by decide +kernel
theorem dX11_end_13 : decode cX11_end 13 = .ok (.iload 4, 2) := by decide +kernel
theorem dX11_end_15 : decode cX11_end 15 = .ok (.ifCond .lt 19, 3) := by decide +kernel
theorem dX11_end_18 : decode cX11_end 18 = .ok (.iload 4, 2) := by decide +kernel
theorem dX11_end_20 : decode cX11_end 20 = .ok (.iconst 3, 1) := by decide +kernel
theorem dX11_end_21 : decode cX11_end 21 = .ok (.if_icmp .gt 13, 3) := by decide +kernel
theorem dX11_end_24 : decode cX11_end 24 = .ok (.iload_n 3, 1) := by decide +kernel
theorem dX11_end_25 : decode cX11_end 25 = .ok (.aload_n 0, 1) := by decide +kernel
theorem dX11_end_26 : decode cX11_end 26 = .ok (.iload_n 1, 1) := by decide +kernel
theorem dX11_end_27 : decode cX11_end 27 = .ok (.iload_n 2, 1) := by decide +kernel
theorem dX11_end_28 : decode cX11_end 28 = .ok (.invokevirtual 244, 3) := by decide +kernel
theorem dX11_end_31 : decode cX11_end 31 = .ok (.if_icmp .lt 7, 3) := by decide +kernel
theorem dX11_end_34 : decode cX11_end 34 = .ok (.ldc2_w 176, 3) := by decide +kernel
theorem dX11_end_37 : decode cX11_end 37 = .ok (.lreturn, 1) := by decide +kernel
theorem dX11_end_38 : decode cX11_end 38 = .ok (.aload_n 0, 1) := by decide +kernel
theorem dX11_end_39 : decode cX11_end 39 = .ok (.iload_n 3, 1) := by decide +kernel
theorem dX11_end_40 : decode cX11_end 40 = .ok (.ifCond .ne 10, 3) := by decide +kernel
theorem dX11_end_43 : decode cX11_end 43 = .ok (.aload_n 0, 1) := by decide +kernel
theorem dX11_end_44 : decode cX11_end 44 = .ok (.getfield 200, 3) := by decide +kernel
theorem dX11_end_47 : decode cX11_end 47 = .ok (.goto 7, 3) := by decide +kernel
theorem dX11_end_50 : decode cX11_end 50 = .ok (.aload_n 0, 1) := by decide +kernel
theorem dX11_end_51 : decode cX11_end 51 = .ok (.getfield 203, 3) := by decide +kernel
theorem dX11_end_54 : decode cX11_end 54 = .ok (.iload 4, 2) := by decide +kernel
theorem dX11_end_56 : decode cX11_end 56 = .ok (.invokevirtual 237, 3) := by decide +kernel
theorem dX11_end_59 : decode cX11_end 59 = .ok (.lreturn, 1) := by decide +kernel
theorem dX11_about_0 : decode cX11_about 0 = .ok (.aload_n 0, 1) := by decide +kernel
theorem dX11_about_1 : decode cX11_about 1 = .ok (.iload_n 1, 1) := by decide +kernel
theorem dX11_about_2 : decode cX11_about 2 = .ok (.invokevirtual 124, 3) := by decide +kernel
theorem dX11_about_5 : decode cX11_about 5 = .ok (.ifCond .ne 5, 3) := by decide +kernel
theorem dX11_about_8 : decode cX11_about 8 = .ok (.iconst (-1), 1) := by decide +kernel
theorem dX11_about_9 : decode cX11_about 9 = .ok (.ireturn, 1) := by decide +kernel
theorem dX11_about_10 : decode cX11_about 10 = .ok (.iconst 0, 1) := by decide +kernel
theorem dX11_about_11 : decode cX11_about 11 = .ok (.istore_n 2, 1) := by decide +kernel
theorem dX11_about_12 : decode cX11_about 12 = .ok (.iconst 0, 1) := by decide +kernel
theorem dX11_about_13 : decode cX11_about 13 = .ok (.istore_n 3, 1) := by decide +kernel
theorem dX11_about_14 : decode cX11_about 14 = .ok (.iload_n 3, 1) := by decide +kernel
theorem dX11_about_15 : decode cX11_about 15 = .ok (.bipush 24, 2) := by decide +kernel
theorem dX11_about_17 : decode cX11_about 17 = .ok (.if_icmp .ge 30, 3) := by decide +kernel
theorem dX11_about_20 : decode cX11_about 20 = .ok (.iload_n 3, 1) := by decide +kernel
theorem dX11_about_21 : decode cX11_about 21 = .ok (.iload_n 1, 1) := by decide +kernel
theorem dX11_about_22 : decode cX11_about 22 = .ok (.if_icmp .eq 19, 3) := by decide +kernel
theorem dX11_about_25 : decode cX11_about 25 = .ok (.aload_n 0, 1) := by decide +kernel
theorem dX11_about_26 : decode cX11_about 26 = .ok (.iload_n 1, 1) := by decide +kernel
theorem dX11_about_27 : decode cX11_about 27 = .ok (.iload_n 3, 1) := by decide +kernel
theorem dX11_about_28 : decode cX11_about 28 = .ok (.invokevirtual 244, 3) := by decide +kernel
theorem dX11_about_31 : decode cX11_about 31 = .ok (.iconst 2, 1) := by decide +kernel
theorem dX11_about_32 : decode cX11_about 32 = .ok (.if_icmp .ne 9, 3) := by decide +kernel
theorem dX11_about_35 : decode cX11_about 35 = .ok (.iload_n 2, 1) := by decide +kernel
theorem dX11_about_36 : decode cX11_about 36 = .ok (.iconst 1, 1) := by decide +kernel
theorem dX11_about_37 : decode cX11_about 37 = .ok (.iload_n 3, 1) := by decide +kernel
theorem dX11_about_38 : decode cX11_about 38 = .ok (.ishl, 1) := by decide +kernel
theorem dX11_about_39 : decode cX11_about 39 = .ok (.ior, 1) := by decide +kernel
theorem dX11_about_40 : decode cX11_about 40 = .ok (.istore_n 2, 1) := by decide +kernel
theorem dX11_about_41 : decode cX11_about 41 = .ok (.iinc 3 1, 3) := by decide +kernel
theorem dX11_about_44 : decode cX11_about 44 = .ok (.goto (-30), 3) := by decide +kernel
theorem dX11_about_47 : decode cX11_about 47 = .ok (.iload_n 2, 1) := by decide +kernel
theorem dX11_about_48 : decode cX11_about 48 = .ok (.ireturn, 1) := by decide +kernel
theorem dX11_square_0 : decode cX11_square 0 = .ok (.lload_n 0, 1) := by decide +kernel
theorem dX11_square_1 : decode cX11_square 1 = .ok (.lload_n 0, 1) := by decide +kernel
theorem dX11_square_2 : decode cX11_square 2 = .ok (.lmul, 1) := by decide +kernel
theorem dX11_square_3 : decode cX11_square 3 = .ok (.lload_n 2, 1) := by decide +kernel
theorem dX11_square_4 : decode cX11_square 4 = .ok (.lload_n 2, 1) := by decide +kernel
theorem dX11_square_5 : decode cX11_square 5 = .ok (.lmul, 1) := by decide +kernel
theorem dX11_square_6 : decode cX11_square 6 = .ok (.ladd, 1) := by decide +kernel
theorem dX11_square_7 : decode cX11_square 7 = .ok (.lreturn, 1) := by decide +kernel
theorem dX11_apart_0 : decode cX11_apart 0 = .ok (.aload_n 0, 1) := by decide +kernel
theorem dX11_apart_1 : decode cX11_apart 1 = .ok (.getfield 20, 3) := by decide +kernel
theorem dX11_apart_4 : decode cX11_apart 4 = .ok (.iload_n 1, 1) := by decide +kernel
theorem dX11_apart_5 : decode cX11_apart 5 = .ok (.iaload, 1) := by decide +kernel
theorem dX11_apart_6 : decode cX11_apart 6 = .ok (.aload_n 0, 1) := by decide +kernel
theorem dX11_apart_7 : decode cX11_apart 7 = .ok (.getfield 20, 3) := by decide +kernel
theorem dX11_apart_10 : decode cX11_apart 10 = .ok (.iload_n 2, 1) := by decide +kernel
theorem dX11_apart_11 : decode cX11_apart 11 = .ok (.iaload, 1) := by decide +kernel
theorem dX11_apart_12 : decode cX11_apart 12 = .ok (.isub, 1) := by decide +kernel
theorem dX11_apart_13 : decode cX11_apart 13 = .ok (.i2l, 1) := by decide +kernel
theorem dX11_apart_14 : decode cX11_apart 14 = .ok (.aload_n 0, 1) := by decide +kernel
theorem dX11_apart_15 : decode cX11_apart 15 = .ok (.getfield 24, 3) := by decide +kernel
theorem dX11_apart_18 : decode cX11_apart 18 = .ok (.iload_n 1, 1) := by decide +kernel
theorem dX11_apart_19 : decode cX11_apart 19 = .ok (.iaload, 1) := by decide +kernel
theorem dX11_apart_20 : decode cX11_apart 20 = .ok (.aload_n 0, 1) := by decide +kernel
theorem dX11_apart_21 : decode cX11_apart 21 = .ok (.getfield 24, 3) := by decide +kernel
theorem dX11_apart_24 : decode cX11_apart 24 = .ok (.iload_n 2, 1) := by decide +kernel
theorem dX11_apart_25 : decode cX11_apart 25 = .ok (.iaload, 1) := by decide +kernel
theorem dX11_apart_26 : decode cX11_apart 26 = .ok (.isub, 1) := by decide +kernel
theorem dX11_apart_27 : decode cX11_apart 27 = .ok (.i2l, 1) := by decide +kernel
theorem dX11_apart_28 : decode cX11_apart 28 = .ok (.invokestatic 247, 3) := by decide +kernel
theorem dX11_apart_31 : decode cX11_apart 31 = .ok (.lreturn, 1) := by decide +kernel
theorem dX11_cross_0 : decode cX11_cross 0 = .ok (.aload_n 0, 1) := by decide +kernel
theorem dX11_cross_1 : decode cX11_cross 1 = .ok (.getfield 20, 3) := by decide +kernel
theorem dX11_cross_4 : decode cX11_cross 4 = .ok (.iload_n 2, 1) := by decide +kernel
theorem dX11_cross_5 : decode cX11_cross 5 = .ok (.iaload, 1) := by decide +kernel
theorem dX11_cross_6 : decode cX11_cross 6 = .ok (.aload_n 0, 1) := by decide +kernel
theorem dX11_cross_7 : decode cX11_cross 7 = .ok (.getfield 20, 3) := by decide +kernel
theorem dX11_cross_10 : decode cX11_cross 10 = .ok (.iload_n 1, 1) := by decide +kernel
theorem dX11_cross_11 : decode cX11_cross 11 = .ok (.iaload, 1) := by decide +kernel
theorem dX11_cross_12 : decode cX11_cross 12 = .ok (.isub, 1) := by decide +kernel
theorem dX11_cross_13 : decode cX11_cross 13 = .ok (.i2l, 1) := by decide +kernel
theorem dX11_cross_14 : decode cX11_cross 14 = .ok (.aload_n 0, 1) := by decide +kernel
theorem dX11_cross_15 : decode cX11_cross 15 = .ok (.getfield 24, 3) := by decide +kernel
theorem dX11_cross_18 : decode cX11_cross 18 = .ok (.iload_n 3, 1) := by decide +kernel
theorem dX11_cross_19 : decode cX11_cross 19 = .ok (.iaload, 1) := by decide +kernel
theorem dX11_cross_20 : decode cX11_cross 20 = .ok (.aload_n 0, 1) := by decide +kernel
theorem dX11_cross_21 : decode cX11_cross 21 = .ok (.getfield 24, 3) := by decide +kernel
theorem dX11_cross_24 : decode cX11_cross 24 = .ok (.iload_n 1, 1) := by decide +kernel
theorem dX11_cross_25 : decode cX11_cross 25 = .ok (.iaload, 1) := by decide +kernel
theorem dX11_cross_26 : decode cX11_cross 26 = .ok (.isub, 1) := by decide +kernel
theorem dX11_cross_27 : decode cX11_cross 27 = .ok (.i2l, 1) := by decide +kernel
theorem dX11_cross_28 : decode cX11_cross 28 = .ok (.lmul, 1) := by decide +kernel
theorem dX11_cross_29 : decode cX11_cross 29 = .ok (.aload_n 0, 1) := by decide +kernel
theorem dX11_cross_30 : decode cX11_cross 30 = .ok (.getfield 24, 3) := by decide +kernel
theorem dX11_cross_33 : decode cX11_cross 33 = .ok (.iload_n 2, 1) := by decide +kernel
theorem dX11_cross_34 : decode cX11_cross 34 = .ok (.iaload, 1) := by decide +kernel
theorem dX11_cross_35 : decode cX11_cross 35 = .ok (.aload_n 0, 1) := by decide +kernel
theorem dX11_cross_36 : decode cX11_cross 36 = .ok (.getfield 24, 3) := by decide +kernel
theorem dX11_cross_39 : decode cX11_cross 39 = .ok (.iload_n 1, 1) := by decide +kernel
theorem dX11_cross_40 : decode cX11_cross 40 = .ok (.iaload, 1) := by decide +kernel
theorem dX11_cross_41 : decode cX11_cross 41 = .ok (.isub, 1) := by decide +kernel
theorem dX11_cross_42 : decode cX11_cross 42 = .ok (.i2l, 1) := by decide +kernel
theorem dX11_cross_43 : decode cX11_cross 43 = .ok (.aload_n 0, 1) := by decide +kernel
theorem dX11_cross_44 : decode cX11_cross 44 = .ok (.getfield 20, 3) := by decide +kernel
theorem dX11_cross_47 : decode cX11_cross 47 = .ok (.iload_n 3, 1) := by decide +kernel
theorem dX11_cross_48 : decode cX11_cross 48 = .ok (.iaload, 1) := by decide +kernel
theorem dX11_cross_49 : decode cX11_cross 49 = .ok (.aload_n 0, 1) := by decide +kernel
theorem dX11_cross_50 : decode cX11_cross 50 = .ok (.getfield 20, 3) := by decide +kernel
theorem dX11_cross_53 : decode cX11_cross 53 = .ok (.iload_n 1, 1) := by decide +kernel
theorem dX11_cross_54 : decode cX11_cross 54 = .ok (.iaload, 1) := by decide +kernel
theorem dX11_cross_55 : decode cX11_cross 55 = .ok (.isub, 1) := by decide +kernel
theorem dX11_cross_56 : decode cX11_cross 56 = .ok (.i2l, 1) := by decide +kernel
theorem dX11_cross_57 : decode cX11_cross 57 = .ok (.lmul, 1) := by decide +kernel
theorem dX11_cross_58 : decode cX11_cross 58 = .ok (.lsub, 1) := by decide +kernel
theorem dX11_cross_59 : decode cX11_cross 59 = .ok (.lreturn, 1) := by decide +kernel
theorem dX11_within_0 : decode cX11_within 0 = .ok (.aload_n 0, 1) := by decide +kernel
theorem dX11_within_1 : decode cX11_within 1 = .ok (.getfield 20, 3) := by decide +kernel
theorem dX11_within_4 : decode cX11_within 4 = .ok (.iload_n 1, 1) := by decide +kernel
theorem dX11_within_5 : decode cX11_within 5 = .ok (.iaload, 1) := by decide +kernel
theorem dX11_within_6 : decode cX11_within 6 = .ok (.aload_n 0, 1) := by decide +kernel
theorem dX11_within_7 : decode cX11_within 7 = .ok (.getfield 20, 3) := by decide +kernel
theorem dX11_within_10 : decode cX11_within 10 = .ok (.iload 4, 2) := by decide +kernel
theorem dX11_within_12 : decode cX11_within 12 = .ok (.iaload, 1) := by decide +kernel
theorem dX11_within_13 : decode cX11_within 13 = .ok (.isub, 1) := by decide +kernel
theorem dX11_within_14 : decode cX11_within 14 = .ok (.i2l, 1) := by decide +kernel
theorem dX11_within_15 : decode cX11_within 15 = .ok (.lstore 5, 2) := by decide +kernel
theorem dX11_within_17 : decode cX11_within 17 = .ok (.aload_n 0, 1) := by decide +kernel
theorem dX11_within_18 : decode cX11_within 18 = .ok (.getfield 24, 3) := by decide +kernel
theorem dX11_within_21 : decode cX11_within 21 = .ok (.iload_n 1, 1) := by decide +kernel
theorem dX11_within_22 : decode cX11_within 22 = .ok (.iaload, 1) := by decide +kernel
theorem dX11_within_23 : decode cX11_within 23 = .ok (.aload_n 0, 1) := by decide +kernel
theorem dX11_within_24 : decode cX11_within 24 = .ok (.getfield 24, 3) := by decide +kernel
theorem dX11_within_27 : decode cX11_within 27 = .ok (.iload 4, 2) := by decide +kernel
theorem dX11_within_29 : decode cX11_within 29 = .ok (.iaload, 1) := by decide +kernel
theorem dX11_within_30 : decode cX11_within 30 = .ok (.isub, 1) := by decide +kernel
theorem dX11_within_31 : decode cX11_within 31 = .ok (.i2l, 1) := by decide +kernel
theorem dX11_within_32 : decode cX11_within 32 = .ok (.lstore 7, 2) := by decide +kernel
theorem dX11_within_34 : decode cX11_within 34 = .ok (.aload_n 0, 1) := by decide +kernel
theorem dX11_within_35 : decode cX11_within 35 = .ok (.getfield 20, 3) := by decide +kernel
theorem dX11_within_38 : decode cX11_within 38 = .ok (.iload_n 2, 1) := by decide +kernel
theorem dX11_within_39 : decode cX11_within 39 = .ok (.iaload, 1) := by decide +kernel
theorem dX11_within_40 : decode cX11_within 40 = .ok (.aload_n 0, 1) := by decide +kernel
theorem dX11_within_41 : decode cX11_within 41 = .ok (.getfield 20, 3) := by decide +kernel
theorem dX11_within_44 : decode cX11_within 44 = .ok (.iload 4, 2) := by decide +kernel
theorem dX11_within_46 : decode cX11_within 46 = .ok (.iaload, 1) := by decide +kernel
theorem dX11_within_47 : decode cX11_within 47 = .ok (.isub, 1) := by decide +kernel
theorem dX11_within_48 : decode cX11_within 48 = .ok (.i2l, 1) := by decide +kernel
theorem dX11_within_49 : decode cX11_within 49 = .ok (.lstore 9, 2) := by decide +kernel
theorem dX11_within_51 : decode cX11_within 51 = .ok (.aload_n 0, 1) := by decide +kernel
theorem dX11_within_52 : decode cX11_within 52 = .ok (.getfield 24, 3) := by decide +kernel
theorem dX11_within_55 : decode cX11_within 55 = .ok (.iload_n 2, 1) := by decide +kernel
theorem dX11_within_56 : decode cX11_within 56 = .ok (.iaload, 1) := by decide +kernel
theorem dX11_within_57 : decode cX11_within 57 = .ok (.aload_n 0, 1) := by decide +kernel
theorem dX11_within_58 : decode cX11_within 58 = .ok (.getfield 24, 3) := by decide +kernel
theorem dX11_within_61 : decode cX11_within 61 = .ok (.iload 4, 2) := by decide +kernel
theorem dX11_within_63 : decode cX11_within 63 = .ok (.iaload, 1) := by decide +kernel
theorem dX11_within_64 : decode cX11_within 64 = .ok (.isub, 1) := by decide +kernel
theorem dX11_within_65 : decode cX11_within 65 = .ok (.i2l, 1) := by decide +kernel
theorem dX11_within_66 : decode cX11_within 66 = .ok (.lstore 11, 2) := by decide +kernel
theorem dX11_within_68 : decode cX11_within 68 = .ok (.aload_n 0, 1) := by decide +kernel
theorem dX11_within_69 : decode cX11_within 69 = .ok (.getfield 20, 3) := by decide +kernel
theorem dX11_within_72 : decode cX11_within 72 = .ok (.iload_n 3, 1) := by decide +kernel
theorem dX11_within_73 : decode cX11_within 73 = .ok (.iaload, 1) := by decide +kernel
theorem dX11_within_74 : decode cX11_within 74 = .ok (.aload_n 0, 1) := by decide +kernel
theorem dX11_within_75 : decode cX11_within 75 = .ok (.getfield 20, 3) := by decide +kernel
theorem dX11_within_78 : decode cX11_within 78 = .ok (.iload 4, 2) := by decide +kernel
theorem dX11_within_80 : decode cX11_within 80 = .ok (.iaload, 1) := by decide +kernel
theorem dX11_within_81 : decode cX11_within 81 = .ok (.isub, 1) := by decide +kernel
theorem dX11_within_82 : decode cX11_within 82 = .ok (.i2l, 1) := by decide +kernel
theorem dX11_within_83 : decode cX11_within 83 = .ok (.lstore 13, 2) := by decide +kernel
theorem dX11_within_85 : decode cX11_within 85 = .ok (.aload_n 0, 1) := by decide +kernel
theorem dX11_within_86 : decode cX11_within 86 = .ok (.getfield 24, 3) := by decide +kernel
theorem dX11_within_89 : decode cX11_within 89 = .ok (.iload_n 3, 1) := by decide +kernel
theorem dX11_within_90 : decode cX11_within 90 = .ok (.iaload, 1) := by decide +kernel
theorem dX11_within_91 : decode cX11_within 91 = .ok (.aload_n 0, 1) := by decide +kernel
theorem dX11_within_92 : decode cX11_within 92 = .ok (.getfield 24, 3) := by decide +kernel
theorem dX11_within_95 : decode cX11_within 95 = .ok (.iload 4, 2) := by decide +kernel
theorem dX11_within_97 : decode cX11_within 97 = .ok (.iaload, 1) := by decide +kernel
theorem dX11_within_98 : decode cX11_within 98 = .ok (.isub, 1) := by decide +kernel
theorem dX11_within_99 : decode cX11_within 99 = .ok (.i2l, 1) := by decide +kernel
theorem dX11_within_100 : decode cX11_within 100 = .ok (.lstore 15, 2) := by decide +kernel
theorem dX11_within_102 : decode cX11_within 102 = .ok (.lload 5, 2) := by decide +kernel
theorem dX11_within_104 : decode cX11_within 104 = .ok (.lload 7, 2) := by decide +kernel
theorem dX11_within_106 : decode cX11_within 106 = .ok (.invokestatic 247, 3) := by decide +kernel
theorem dX11_within_109 : decode cX11_within 109 = .ok (.lload 9, 2) := by decide +kernel
theorem dX11_within_111 : decode cX11_within 111 = .ok (.lload 15, 2) := by decide +kernel
theorem dX11_within_113 : decode cX11_within 113 = .ok (.lmul, 1) := by decide +kernel
theorem dX11_within_114 : decode cX11_within 114 = .ok (.lload 11, 2) := by decide +kernel
theorem dX11_within_116 : decode cX11_within 116 = .ok (.lload 13, 2) := by decide +kernel
theorem dX11_within_118 : decode cX11_within 118 = .ok (.lmul, 1) := by decide +kernel
theorem dX11_within_119 : decode cX11_within 119 = .ok (.lsub, 1) := by decide +kernel
theorem dX11_within_120 : decode cX11_within 120 = .ok (.lmul, 1) := by decide +kernel
theorem dX11_within_121 : decode cX11_within 121 = .ok (.lload 9, 2) := by decide +kernel
theorem dX11_within_123 : decode cX11_within 123 = .ok (.lload 11, 2) := by decide +kernel
theorem dX11_within_125 : decode cX11_within 125 = .ok (.invokestatic 247, 3) := by decide +kernel
theorem dX11_within_128 : decode cX11_within 128 = .ok (.lload 5, 2) := by decide +kernel
theorem dX11_within_130 : decode cX11_within 130 = .ok (.lload 15, 2) := by decide +kernel
theorem dX11_within_132 : decode cX11_within 132 = .ok (.lmul, 1) := by decide +kernel
theorem dX11_within_133 : decode cX11_within 133 = .ok (.lload 7, 2) := by decide +kernel
theorem dX11_within_135 : decode cX11_within 135 = .ok (.lload 13, 2) := by decide +kernel
theorem dX11_within_137 : decode cX11_within 137 = .ok (.lmul, 1) := by decide +kernel
theorem dX11_within_138 : decode cX11_within 138 = .ok (.lsub, 1) := by decide +kernel
theorem dX11_within_139 : decode cX11_within 139 = .ok (.lmul, 1) := by decide +kernel
theorem dX11_within_140 : decode cX11_within 140 = .ok (.lsub, 1) := by decide +kernel
theorem dX11_within_141 : decode cX11_within 141 = .ok (.lload 13, 2) := by decide +kernel
theorem dX11_within_143 : decode cX11_within 143 = .ok (.lload 15, 2) := by decide +kernel
theorem dX11_within_145 : decode cX11_within 145 = .ok (.invokestatic 247, 3) := by decide +kernel
theorem dX11_within_148 : decode cX11_within 148 = .ok (.lload 5, 2) := by decide +kernel
theorem dX11_within_150 : decode cX11_within 150 = .ok (.lload 11, 2) := by decide +kernel
theorem dX11_within_152 : decode cX11_within 152 = .ok (.lmul, 1) := by decide +kernel
theorem dX11_within_153 : decode cX11_within 153 = .ok (.lload 7, 2) := by decide +kernel
theorem dX11_within_155 : decode cX11_within 155 = .ok (.lload 9, 2) := by decide +kernel
theorem dX11_within_157 : decode cX11_within 157 = .ok (.lmul, 1) := by decide +kernel
theorem dX11_within_158 : decode cX11_within 158 = .ok (.lsub, 1) := by decide +kernel
theorem dX11_within_159 : decode cX11_within 159 = .ok (.lmul, 1) := by decide +kernel
theorem dX11_within_160 : decode cX11_within 160 = .ok (.ladd, 1) := by decide +kernel
theorem dX11_within_161 : decode cX11_within 161 = .ok (.lstore 17, 2) := by decide +kernel
theorem dX11_within_163 : decode cX11_within 163 = .ok (.aload_n 0, 1) := by decide +kernel
theorem dX11_within_164 : decode cX11_within 164 = .ok (.iload_n 1, 1) := by decide +kernel
theorem dX11_within_165 : decode cX11_within 165 = .ok (.iload_n 2, 1) := by decide +kernel
theorem dX11_within_166 : decode cX11_within 166 = .ok (.iload_n 3, 1) := by decide +kernel
theorem dX11_within_167 : decode cX11_within 167 = .ok (.invokevirtual 250, 3) := by decide +kernel
theorem dX11_within_170 : decode cX11_within 170 = .ok (.lconst 0, 1) := by decide +kernel
theorem dX11_within_171 : decode cX11_within 171 = .ok (.lcmp, 1) := by decide +kernel
theorem dX11_within_172 : decode cX11_within 172 = .ok (.ifCond .ge 9, 3) := by decide +kernel
theorem dX11_within_175 : decode cX11_within 175 = .ok (.lload 17, 2) := by decide +kernel
theorem dX11_within_177 : decode cX11_within 177 = .ok (.lneg, 1) := by decide +kernel
theorem dX11_within_178 : decode cX11_within 178 = .ok (.goto 5, 3) := by decide +kernel
theorem dX11_within_181 : decode cX11_within 181 = .ok (.lload 17, 2) := by decide +kernel
theorem dX11_within_183 : decode cX11_within 183 = .ok (.lreturn, 1) := by decide +kernel
theorem dX11_roundOf_0 : decode cX11_roundOf 0 = .ok (.iconst 0, 1) := by decide +kernel
theorem dX11_roundOf_1 : decode cX11_roundOf 1 = .ok (.istore 4, 2) := by decide +kernel
theorem dX11_roundOf_3 : decode cX11_roundOf 3 = .ok (.iconst 0, 1) := by decide +kernel
theorem dX11_roundOf_4 : decode cX11_roundOf 4 = .ok (.istore 5, 2) := by decide +kernel
theorem dX11_roundOf_6 : decode cX11_roundOf 6 = .ok (.iload 5, 2) := by decide +kernel
theorem dX11_roundOf_8 : decode cX11_roundOf 8 = .ok (.bipush 24, 2) := by decide +kernel
theorem dX11_roundOf_10 : decode cX11_roundOf 10 = .ok (.if_icmp .ge 79, 3) := by decide +kernel
theorem dX11_roundOf_13 : decode cX11_roundOf 13 = .ok (.aload_n 0, 1) := by decide +kernel
theorem dX11_roundOf_14 : decode cX11_roundOf 14 = .ok (.iload 5, 2) := by decide +kernel
theorem dX11_roundOf_16 : decode cX11_roundOf 16 = .ok (.invokevirtual 148, 3) := by decide +kernel
theorem dX11_roundOf_19 : decode cX11_roundOf 19 = .ok (.ifCond .ne 6, 3) := by decide +kernel
theorem dX11_roundOf_22 : decode cX11_roundOf 22 = .ok (.goto 61, 3) := by decide +kernel
theorem dX11_roundOf_25 : decode cX11_roundOf 25 = .ok (.iload 5, 2) := by decide +kernel
theorem dX11_roundOf_27 : decode cX11_roundOf 27 = .ok (.iload_n 1, 1) := by decide +kernel
theorem dX11_roundOf_28 : decode cX11_roundOf 28 = .ok (.if_icmp .eq 15, 3) := by decide +kernel
theorem dX11_roundOf_31 : decode cX11_roundOf 31 = .ok (.iload 5, 2) := by decide +kernel
theorem dX11_roundOf_33 : decode cX11_roundOf 33 = .ok (.iload_n 2, 1) := by decide +kernel
theorem dX11_roundOf_34 : decode cX11_roundOf 34 = .ok (.if_icmp .eq 9, 3) := by decide +kernel
theorem dX11_roundOf_37 : decode cX11_roundOf 37 = .ok (.iload 5, 2) := by decide +kernel
theorem dX11_roundOf_39 : decode cX11_roundOf 39 = .ok (.iload_n 3, 1) := by decide +kernel
theorem dX11_roundOf_40 : decode cX11_roundOf 40 = .ok (.if_icmp .ne 7, 3) := by decide +kernel
theorem dX11_roundOf_43 : decode cX11_roundOf 43 = .ok (.lconst 0, 1) := by decide +kernel
theorem dX11_roundOf_44 : decode cX11_roundOf 44 = .ok (.goto 12, 3) := by decide +kernel
theorem dX11_roundOf_47 : decode cX11_roundOf 47 = .ok (.aload_n 0, 1) := by decide +kernel
theorem dX11_roundOf_48 : decode cX11_roundOf 48 = .ok (.iload_n 1, 1) := by decide +kernel
theorem dX11_roundOf_49 : decode cX11_roundOf 49 = .ok (.iload_n 2, 1) := by decide +kernel
theorem dX11_roundOf_50 : decode cX11_roundOf 50 = .ok (.iload_n 3, 1) := by decide +kernel
theorem dX11_roundOf_51 : decode cX11_roundOf 51 = .ok (.iload 5, 2) := by decide +kernel
theorem dX11_roundOf_53 : decode cX11_roundOf 53 = .ok (.invokevirtual 254, 3) := by decide +kernel
theorem dX11_roundOf_56 : decode cX11_roundOf 56 = .ok (.lstore 6, 2) := by decide +kernel
theorem dX11_roundOf_58 : decode cX11_roundOf 58 = .ok (.lload 6, 2) := by decide +kernel
theorem dX11_roundOf_60 : decode cX11_roundOf 60 = .ok (.lconst 0, 1) := by decide +kernel
theorem dX11_roundOf_61 : decode cX11_roundOf 61 = .ok (.lcmp, 1) := by decide +kernel
theorem dX11_roundOf_62 : decode cX11_roundOf 62 = .ok (.ifCond .le 5, 3) := by decide +kernel
theorem dX11_roundOf_65 : decode cX11_roundOf 65 = .ok (.iconst 0, 1) := by decide +kernel
theorem dX11_roundOf_66 : decode cX11_roundOf 66 = .ok (.ireturn, 1) := by decide +kernel
theorem dX11_roundOf_67 : decode cX11_roundOf 67 = .ok (.lload 6, 2) := by decide +kernel
theorem dX11_roundOf_69 : decode cX11_roundOf 69 = .ok (.lconst 0, 1) := by decide +kernel
theorem dX11_roundOf_70 : decode cX11_roundOf 70 = .ok (.lcmp, 1) := by decide +kernel
theorem dX11_roundOf_71 : decode cX11_roundOf 71 = .ok (.ifCond .ne 12, 3) := by decide +kernel
theorem dX11_roundOf_74 : decode cX11_roundOf 74 = .ok (.iload 4, 2) := by decide +kernel
theorem dX11_roundOf_76 : decode cX11_roundOf 76 = .ok (.iconst 1, 1) := by decide +kernel
theorem dX11_roundOf_77 : decode cX11_roundOf 77 = .ok (.iload 5, 2) := by decide +kernel
theorem dX11_roundOf_79 : decode cX11_roundOf 79 = .ok (.ishl, 1) := by decide +kernel
theorem dX11_roundOf_80 : decode cX11_roundOf 80 = .ok (.ior, 1) := by decide +kernel
theorem dX11_roundOf_81 : decode cX11_roundOf 81 = .ok (.istore 4, 2) := by decide +kernel
theorem dX11_roundOf_83 : decode cX11_roundOf 83 = .ok (.iinc 5 1, 3) := by decide +kernel
theorem dX11_roundOf_86 : decode cX11_roundOf 86 = .ok (.goto (-80), 3) := by decide +kernel
theorem dX11_roundOf_89 : decode cX11_roundOf 89 = .ok (.iload 4, 2) := by decide +kernel
theorem dX11_roundOf_91 : decode cX11_roundOf 91 = .ok (.ireturn, 1) := by decide +kernel
theorem dX11_ringsOf_0 : decode cX11_ringsOf 0 = .ok (.aload_n 0, 1) := by decide +kernel
theorem dX11_ringsOf_1 : decode cX11_ringsOf 1 = .ok (.iconst 0, 1) := by decide +kernel
theorem dX11_ringsOf_2 : decode cX11_ringsOf 2 = .ok (.putfield 257, 3) := by decide +kernel
theorem dX11_ringsOf_5 : decode cX11_ringsOf 5 = .ok (.iconst 0, 1) := by decide +kernel
theorem dX11_ringsOf_6 : decode cX11_ringsOf 6 = .ok (.istore_n 1, 1) := by decide +kernel
theorem dX11_ringsOf_7 : decode cX11_ringsOf 7 = .ok (.iload_n 1, 1) := by decide +kernel
theorem dX11_ringsOf_8 : decode cX11_ringsOf 8 = .ok (.bipush 24, 2) := by decide +kernel
theorem dX11_ringsOf_10 : decode cX11_ringsOf 10 = .ok (.if_icmp .ge 166, 3) := by decide +kernel
theorem dX11_ringsOf_13 : decode cX11_ringsOf 13 = .ok (.iload_n 1, 1) := by decide +kernel
theorem dX11_ringsOf_14 : decode cX11_ringsOf 14 = .ok (.iconst 1, 1) := by decide +kernel
theorem dX11_ringsOf_15 : decode cX11_ringsOf 15 = .ok (.iadd, 1) := by decide +kernel
theorem dX11_ringsOf_16 : decode cX11_ringsOf 16 = .ok (.istore_n 2, 1) := by decide +kernel
theorem dX11_ringsOf_17 : decode cX11_ringsOf 17 = .ok (.iload_n 2, 1) := by decide +kernel
theorem dX11_ringsOf_18 : decode cX11_ringsOf 18 = .ok (.bipush 24, 2) := by decide +kernel
theorem dX11_ringsOf_20 : decode cX11_ringsOf 20 = .ok (.if_icmp .ge 150, 3) := by decide +kernel
theorem dX11_ringsOf_23 : decode cX11_ringsOf 23 = .ok (.iload_n 2, 1) := by decide +kernel
theorem dX11_ringsOf_24 : decode cX11_ringsOf 24 = .ok (.iconst 1, 1) := by decide +kernel
theorem dX11_ringsOf_25 : decode cX11_ringsOf 25 = .ok (.iadd, 1) := by decide +kernel
theorem dX11_ringsOf_26 : decode cX11_ringsOf 26 = .ok (.istore_n 3, 1) := by decide +kernel
theorem dX11_ringsOf_27 : decode cX11_ringsOf 27 = .ok (.iload_n 3, 1) := by decide +kernel
theorem dX11_ringsOf_28 : decode cX11_ringsOf 28 = .ok (.bipush 24, 2) := by decide +kernel
theorem dX11_ringsOf_30 : decode cX11_ringsOf 30 = .ok (.if_icmp .ge 134, 3) := by decide +kernel
theorem dX11_ringsOf_33 : decode cX11_ringsOf 33 = .ok (.aload_n 0, 1) := by decide +kernel
theorem dX11_ringsOf_34 : decode cX11_ringsOf 34 = .ok (.iload_n 1, 1) := by decide +kernel
theorem dX11_ringsOf_35 : decode cX11_ringsOf 35 = .ok (.invokevirtual 148, 3) := by decide +kernel
theorem dX11_ringsOf_38 : decode cX11_ringsOf 38 = .ok (.ifCond .eq 120, 3) := by decide +kernel
theorem dX11_ringsOf_41 : decode cX11_ringsOf 41 = .ok (.aload_n 0, 1) := by decide +kernel
theorem dX11_ringsOf_42 : decode cX11_ringsOf 42 = .ok (.iload_n 2, 1) := by decide +kernel
theorem dX11_ringsOf_43 : decode cX11_ringsOf 43 = .ok (.invokevirtual 148, 3) := by decide +kernel
theorem dX11_ringsOf_46 : decode cX11_ringsOf 46 = .ok (.ifCond .eq 112, 3) := by decide +kernel
theorem dX11_ringsOf_49 : decode cX11_ringsOf 49 = .ok (.aload_n 0, 1) := by decide +kernel
theorem dX11_ringsOf_50 : decode cX11_ringsOf 50 = .ok (.iload_n 3, 1) := by decide +kernel
theorem dX11_ringsOf_51 : decode cX11_ringsOf 51 = .ok (.invokevirtual 148, 3) := by decide +kernel
theorem dX11_ringsOf_54 : decode cX11_ringsOf 54 = .ok (.ifCond .eq 104, 3) := by decide +kernel
theorem dX11_ringsOf_57 : decode cX11_ringsOf 57 = .ok (.aload_n 0, 1) := by decide +kernel
theorem dX11_ringsOf_58 : decode cX11_ringsOf 58 = .ok (.iload_n 1, 1) := by decide +kernel
theorem dX11_ringsOf_59 : decode cX11_ringsOf 59 = .ok (.iload_n 2, 1) := by decide +kernel
theorem dX11_ringsOf_60 : decode cX11_ringsOf 60 = .ok (.iload_n 3, 1) := by decide +kernel
theorem dX11_ringsOf_61 : decode cX11_ringsOf 61 = .ok (.invokevirtual 250, 3) := by decide +kernel
theorem dX11_ringsOf_64 : decode cX11_ringsOf 64 = .ok (.lconst 0, 1) := by decide +kernel
theorem dX11_ringsOf_65 : decode cX11_ringsOf 65 = .ok (.lcmp, 1) := by decide +kernel
theorem dX11_ringsOf_66 : decode cX11_ringsOf 66 = .ok (.ifCond .ne 6, 3) := by decide +kernel
theorem dX11_ringsOf_69 : decode cX11_ringsOf 69 = .ok (.goto 89, 3) := by decide +kernel
theorem dX11_ringsOf_72 : decode cX11_ringsOf 72 = .ok (.aload_n 0, 1) := by decide +kernel
theorem dX11_ringsOf_73 : decode cX11_ringsOf 73 = .ok (.iload_n 1, 1) := by decide +kernel
theorem dX11_ringsOf_74 : decode cX11_ringsOf 74 = .ok (.iload_n 2, 1) := by decide +kernel
theorem dX11_ringsOf_75 : decode cX11_ringsOf 75 = .ok (.iload_n 3, 1) := by decide +kernel
theorem dX11_ringsOf_76 : decode cX11_ringsOf 76 = .ok (.invokevirtual 260, 3) := by decide +kernel
theorem dX11_ringsOf_79 : decode cX11_ringsOf 79 = .ok (.istore 4, 2) := by decide +kernel
theorem dX11_ringsOf_81 : decode cX11_ringsOf 81 = .ok (.iload 4, 2) := by decide +kernel
theorem dX11_ringsOf_83 : decode cX11_ringsOf 83 = .ok (.ifCond .eq 75, 3) := by decide +kernel
theorem dX11_ringsOf_86 : decode cX11_ringsOf 86 = .ok (.iload 4, 2) := by decide +kernel
theorem dX11_ringsOf_88 : decode cX11_ringsOf 88 = .ok (.iconst 1, 1) := by decide +kernel
theorem dX11_ringsOf_89 : decode cX11_ringsOf 89 = .ok (.iload_n 3, 1) := by decide +kernel
theorem dX11_ringsOf_90 : decode cX11_ringsOf 90 = .ok (.ishl, 1) := by decide +kernel
theorem dX11_ringsOf_91 : decode cX11_ringsOf 91 = .ok (.iconst 1, 1) := by decide +kernel
theorem dX11_ringsOf_92 : decode cX11_ringsOf 92 = .ok (.isub, 1) := by decide +kernel
theorem dX11_ringsOf_93 : decode cX11_ringsOf 93 = .ok (.iand, 1) := by decide +kernel
theorem dX11_ringsOf_94 : decode cX11_ringsOf 94 = .ok (.iconst 1, 1) := by decide +kernel
theorem dX11_ringsOf_95 : decode cX11_ringsOf 95 = .ok (.iload_n 1, 1) := by decide +kernel
theorem dX11_ringsOf_96 : decode cX11_ringsOf 96 = .ok (.ishl, 1) := by decide +kernel
theorem dX11_ringsOf_97 : decode cX11_ringsOf 97 = .ok (.iconst 1, 1) := by decide +kernel
theorem dX11_ringsOf_98 : decode cX11_ringsOf 98 = .ok (.iload_n 2, 1) := by decide +kernel
theorem dX11_ringsOf_99 : decode cX11_ringsOf 99 = .ok (.ishl, 1) := by decide +kernel
theorem dX11_ringsOf_100 : decode cX11_ringsOf 100 = .ok (.ior, 1) := by decide +kernel
theorem dX11_ringsOf_101 : decode cX11_ringsOf 101 = .ok (.if_icmp .eq 6, 3) := by decide +kernel
theorem dX11_ringsOf_104 : decode cX11_ringsOf 104 = .ok (.goto 54, 3) := by decide +kernel
theorem dX11_ringsOf_107 : decode cX11_ringsOf 107 = .ok (.aload_n 0, 1) := by decide +kernel
theorem dX11_ringsOf_108 : decode cX11_ringsOf 108 = .ok (.getfield 79, 3) := by decide +kernel
theorem dX11_ringsOf_111 : decode cX11_ringsOf 111 = .ok (.aload_n 0, 1) := by decide +kernel
theorem dX11_ringsOf_112 : decode cX11_ringsOf 112 = .ok (.getfield 257, 3) := by decide +kernel
theorem dX11_ringsOf_115 : decode cX11_ringsOf 115 = .ok (.iload 4, 2) := by decide +kernel
theorem dX11_ringsOf_117 : decode cX11_ringsOf 117 = .ok (.iastore, 1) := by decide +kernel
theorem dX11_ringsOf_118 : decode cX11_ringsOf 118 = .ok (.aload_n 0, 1) := by decide +kernel
theorem dX11_ringsOf_119 : decode cX11_ringsOf 119 = .ok (.getfield 82, 3) := by decide +kernel
theorem dX11_ringsOf_122 : decode cX11_ringsOf 122 = .ok (.aload_n 0, 1) := by decide +kernel
theorem dX11_ringsOf_123 : decode cX11_ringsOf 123 = .ok (.getfield 257, 3) := by decide +kernel
theorem dX11_ringsOf_126 : decode cX11_ringsOf 126 = .ok (.iload_n 1, 1) := by decide +kernel
theorem dX11_ringsOf_127 : decode cX11_ringsOf 127 = .ok (.iastore, 1) := by decide +kernel
theorem dX11_ringsOf_128 : decode cX11_ringsOf 128 = .ok (.aload_n 0, 1) := by decide +kernel
theorem dX11_ringsOf_129 : decode cX11_ringsOf 129 = .ok (.getfield 85, 3) := by decide +kernel
theorem dX11_ringsOf_132 : decode cX11_ringsOf 132 = .ok (.aload_n 0, 1) := by decide +kernel
theorem dX11_ringsOf_133 : decode cX11_ringsOf 133 = .ok (.getfield 257, 3) := by decide +kernel
theorem dX11_ringsOf_136 : decode cX11_ringsOf 136 = .ok (.iload_n 2, 1) := by decide +kernel
theorem dX11_ringsOf_137 : decode cX11_ringsOf 137 = .ok (.iastore, 1) := by decide +kernel
theorem dX11_ringsOf_138 : decode cX11_ringsOf 138 = .ok (.aload_n 0, 1) := by decide +kernel
theorem dX11_ringsOf_139 : decode cX11_ringsOf 139 = .ok (.getfield 88, 3) := by decide +kernel
theorem dX11_ringsOf_142 : decode cX11_ringsOf 142 = .ok (.aload_n 0, 1) := by decide +kernel
theorem dX11_ringsOf_143 : decode cX11_ringsOf 143 = .ok (.getfield 257, 3) := by decide +kernel
theorem dX11_ringsOf_146 : decode cX11_ringsOf 146 = .ok (.iload_n 3, 1) := by decide +kernel
theorem dX11_ringsOf_147 : decode cX11_ringsOf 147 = .ok (.iastore, 1) := by decide +kernel
theorem dX11_ringsOf_148 : decode cX11_ringsOf 148 = .ok (.aload_n 0, 1) := by decide +kernel
theorem dX11_ringsOf_149 : decode cX11_ringsOf 149 = .ok (.dup, 1) := by decide +kernel
theorem dX11_ringsOf_150 : decode cX11_ringsOf 150 = .ok (.getfield 257, 3) := by decide +kernel
theorem dX11_ringsOf_153 : decode cX11_ringsOf 153 = .ok (.iconst 1, 1) := by decide +kernel
theorem dX11_ringsOf_154 : decode cX11_ringsOf 154 = .ok (.iadd, 1) := by decide +kernel
theorem dX11_ringsOf_155 : decode cX11_ringsOf 155 = .ok (.putfield 257, 3) := by decide +kernel
theorem dX11_ringsOf_158 : decode cX11_ringsOf 158 = .ok (.iinc 3 1, 3) := by decide +kernel
theorem dX11_ringsOf_161 : decode cX11_ringsOf 161 = .ok (.goto (-134), 3) := by decide +kernel
theorem dX11_ringsOf_164 : decode cX11_ringsOf 164 = .ok (.iinc 2 1, 3) := by decide +kernel
theorem dX11_ringsOf_167 : decode cX11_ringsOf 167 = .ok (.goto (-150), 3) := by decide +kernel
theorem dX11_ringsOf_170 : decode cX11_ringsOf 170 = .ok (.iinc 1 1, 3) := by decide +kernel
theorem dX11_ringsOf_173 : decode cX11_ringsOf 173 = .ok (.goto (-166), 3) := by decide +kernel
theorem dX11_ringsOf_176 : decode cX11_ringsOf 176 = .ok (.return_, 1) := by decide +kernel
theorem dX11_rings_0 : decode cX11_rings 0 = .ok (.aload_n 0, 1) := by decide +kernel
theorem dX11_rings_1 : decode cX11_rings 1 = .ok (.invokevirtual 263, 3) := by decide +kernel
theorem dX11_rings_4 : decode cX11_rings 4 = .ok (.aload_n 0, 1) := by decide +kernel
theorem dX11_rings_5 : decode cX11_rings 5 = .ok (.getfield 257, 3) := by decide +kernel
theorem dX11_rings_8 : decode cX11_rings 8 = .ok (.ireturn, 1) := by decide +kernel
theorem dX11_ring_0 : decode cX11_ring 0 = .ok (.aload_n 0, 1) := by decide +kernel
theorem dX11_ring_1 : decode cX11_ring 1 = .ok (.invokevirtual 263, 3) := by decide +kernel
theorem dX11_ring_4 : decode cX11_ring 4 = .ok (.iload_n 1, 1) := by decide +kernel
theorem dX11_ring_5 : decode cX11_ring 5 = .ok (.ifCond .lt 20, 3) := by decide +kernel
theorem dX11_ring_8 : decode cX11_ring 8 = .ok (.iload_n 1, 1) := by decide +kernel
theorem dX11_ring_9 : decode cX11_ring 9 = .ok (.aload_n 0, 1) := by decide +kernel
theorem dX11_ring_10 : decode cX11_ring 10 = .ok (.getfield 257, 3) := by decide +kernel
theorem dX11_ring_13 : decode cX11_ring 13 = .ok (.if_icmp .ge 12, 3) := by decide +kernel
theorem dX11_ring_16 : decode cX11_ring 16 = .ok (.aload_n 0, 1) := by decide +kernel
theorem dX11_ring_17 : decode cX11_ring 17 = .ok (.getfield 79, 3) := by decide +kernel
theorem dX11_ring_20 : decode cX11_ring 20 = .ok (.iload_n 1, 1) := by decide +kernel
theorem dX11_ring_21 : decode cX11_ring 21 = .ok (.iaload, 1) := by decide +kernel
theorem dX11_ring_22 : decode cX11_ring 22 = .ok (.goto 4, 3) := by decide +kernel
theorem dX11_ring_25 : decode cX11_ring 25 = .ok (.iconst 0, 1) := by decide +kernel
theorem dX11_ring_26 : decode cX11_ring 26 = .ok (.ireturn, 1) := by decide +kernel
theorem dX11_middle_0 : decode cX11_middle 0 = .ok (.aload_n 0, 1) := by decide +kernel
theorem dX11_middle_1 : decode cX11_middle 1 = .ok (.getfield 82, 3) := by decide +kernel
theorem dX11_middle_4 : decode cX11_middle 4 = .ok (.iload_n 1, 1) := by decide +kernel
theorem dX11_middle_5 : decode cX11_middle 5 = .ok (.iaload, 1) := by decide +kernel
theorem dX11_middle_6 : decode cX11_middle 6 = .ok (.istore_n 2, 1) := by decide +kernel
theorem dX11_middle_7 : decode cX11_middle 7 = .ok (.aload_n 0, 1) := by decide +kernel
theorem dX11_middle_8 : decode cX11_middle 8 = .ok (.getfield 85, 3) := by decide +kernel
theorem dX11_middle_11 : decode cX11_middle 11 = .ok (.iload_n 1, 1) := by decide +kernel
theorem dX11_middle_12 : decode cX11_middle 12 = .ok (.iaload, 1) := by decide +kernel
theorem dX11_middle_13 : decode cX11_middle 13 = .ok (.istore_n 3, 1) := by decide +kernel
theorem dX11_middle_14 : decode cX11_middle 14 = .ok (.aload_n 0, 1) := by decide +kernel
theorem dX11_middle_15 : decode cX11_middle 15 = .ok (.getfield 88, 3) := by decide +kernel
theorem dX11_middle_18 : decode cX11_middle 18 = .ok (.iload_n 1, 1) := by decide +kernel
theorem dX11_middle_19 : decode cX11_middle 19 = .ok (.iaload, 1) := by decide +kernel
theorem dX11_middle_20 : decode cX11_middle 20 = .ok (.istore 4, 2) := by decide +kernel
theorem dX11_middle_22 : decode cX11_middle 22 = .ok (.aload_n 0, 1) := by decide +kernel
theorem dX11_middle_23 : decode cX11_middle 23 = .ok (.getfield 20, 3) := by decide +kernel
theorem dX11_middle_26 : decode cX11_middle 26 = .ok (.iload_n 2, 1) := by decide +kernel
theorem dX11_middle_27 : decode cX11_middle 27 = .ok (.iaload, 1) := by decide +kernel
theorem dX11_middle_28 : decode cX11_middle 28 = .ok (.i2l, 1) := by decide +kernel
theorem dX11_middle_29 : decode cX11_middle 29 = .ok (.aload_n 0, 1) := by decide +kernel
theorem dX11_middle_30 : decode cX11_middle 30 = .ok (.getfield 24, 3) := by decide +kernel
theorem dX11_middle_33 : decode cX11_middle 33 = .ok (.iload_n 2, 1) := by decide +kernel
theorem dX11_middle_34 : decode cX11_middle 34 = .ok (.iaload, 1) := by decide +kernel
theorem dX11_middle_35 : decode cX11_middle 35 = .ok (.i2l, 1) := by decide +kernel
theorem dX11_middle_36 : decode cX11_middle 36 = .ok (.invokestatic 247, 3) := by decide +kernel
theorem dX11_middle_39 : decode cX11_middle 39 = .ok (.lstore 5, 2) := by decide +kernel
theorem dX11_middle_41 : decode cX11_middle 41 = .ok (.aload_n 0, 1) := by decide +kernel
theorem dX11_middle_42 : decode cX11_middle 42 = .ok (.getfield 20, 3) := by decide +kernel
theorem dX11_middle_45 : decode cX11_middle 45 = .ok (.iload_n 3, 1) := by decide +kernel
theorem dX11_middle_46 : decode cX11_middle 46 = .ok (.iaload, 1) := by decide +kernel
theorem dX11_middle_47 : decode cX11_middle 47 = .ok (.i2l, 1) := by decide +kernel
theorem dX11_middle_48 : decode cX11_middle 48 = .ok (.aload_n 0, 1) := by decide +kernel
theorem dX11_middle_49 : decode cX11_middle 49 = .ok (.getfield 24, 3) := by decide +kernel
theorem dX11_middle_52 : decode cX11_middle 52 = .ok (.iload_n 3, 1) := by decide +kernel
theorem dX11_middle_53 : decode cX11_middle 53 = .ok (.iaload, 1) := by decide +kernel
theorem dX11_middle_54 : decode cX11_middle 54 = .ok (.i2l, 1) := by decide +kernel
theorem dX11_middle_55 : decode cX11_middle 55 = .ok (.invokestatic 247, 3) := by decide +kernel
theorem dX11_middle_58 : decode cX11_middle 58 = .ok (.lstore 7, 2) := by decide +kernel
theorem dX11_middle_60 : decode cX11_middle 60 = .ok (.aload_n 0, 1) := by decide +kernel
theorem dX11_middle_61 : decode cX11_middle 61 = .ok (.getfield 20, 3) := by decide +kernel
theorem dX11_middle_64 : decode cX11_middle 64 = .ok (.iload 4, 2) := by decide +kernel
theorem dX11_middle_66 : decode cX11_middle 66 = .ok (.iaload, 1) := by decide +kernel
theorem dX11_middle_67 : decode cX11_middle 67 = .ok (.i2l, 1) := by decide +kernel
theorem dX11_middle_68 : decode cX11_middle 68 = .ok (.aload_n 0, 1) := by decide +kernel
theorem dX11_middle_69 : decode cX11_middle 69 = .ok (.getfield 24, 3) := by decide +kernel
theorem dX11_middle_72 : decode cX11_middle 72 = .ok (.iload 4, 2) := by decide +kernel
theorem dX11_middle_74 : decode cX11_middle 74 = .ok (.iaload, 1) := by decide +kernel
theorem dX11_middle_75 : decode cX11_middle 75 = .ok (.i2l, 1) := by decide +kernel
theorem dX11_middle_76 : decode cX11_middle 76 = .ok (.invokestatic 247, 3) := by decide +kernel
theorem dX11_middle_79 : decode cX11_middle 79 = .ok (.lstore 9, 2) := by decide +kernel
theorem dX11_middle_81 : decode cX11_middle 81 = .ok (.aload_n 0, 1) := by decide +kernel
theorem dX11_middle_82 : decode cX11_middle 82 = .ok (.iload_n 2, 1) := by decide +kernel
theorem dX11_middle_83 : decode cX11_middle 83 = .ok (.iload_n 3, 1) := by decide +kernel
theorem dX11_middle_84 : decode cX11_middle 84 = .ok (.iload 4, 2) := by decide +kernel
theorem dX11_middle_86 : decode cX11_middle 86 = .ok (.invokevirtual 250, 3) := by decide +kernel
theorem dX11_middle_89 : decode cX11_middle 89 = .ok (.lstore 11, 2) := by decide +kernel
theorem dX11_middle_91 : decode cX11_middle 91 = .ok (.aload_n 0, 1) := by decide +kernel
theorem dX11_middle_92 : decode cX11_middle 92 = .ok (.ldc2_w 166, 3) := by decide +kernel
theorem dX11_middle_95 : decode cX11_middle 95 = .ok (.lload 11, 2) := by decide +kernel
theorem dX11_middle_97 : decode cX11_middle 97 = .ok (.lmul, 1) := by decide +kernel
theorem dX11_middle_98 : decode cX11_middle 98 = .ok (.putfield 266, 3) := by decide +kernel
theorem dX11_middle_101 : decode cX11_middle 101 = .ok (.aload_n 0, 1) := by decide +kernel
theorem dX11_middle_102 : decode cX11_middle 102 = .ok (.lload 5, 2) := by decide +kernel
theorem dX11_middle_104 : decode cX11_middle 104 = .ok (.aload_n 0, 1) := by decide +kernel
theorem dX11_middle_105 : decode cX11_middle 105 = .ok (.getfield 24, 3) := by decide +kernel
theorem dX11_middle_108 : decode cX11_middle 108 = .ok (.iload_n 3, 1) := by decide +kernel
theorem dX11_middle_109 : decode cX11_middle 109 = .ok (.iaload, 1) := by decide +kernel
theorem dX11_middle_110 : decode cX11_middle 110 = .ok (.aload_n 0, 1) := by decide +kernel
theorem dX11_middle_111 : decode cX11_middle 111 = .ok (.getfield 24, 3) := by decide +kernel
theorem dX11_middle_114 : decode cX11_middle 114 = .ok (.iload 4, 2) := by decide +kernel
theorem dX11_middle_116 : decode cX11_middle 116 = .ok (.iaload, 1) := by decide +kernel
theorem dX11_middle_117 : decode cX11_middle 117 = .ok (.isub, 1) := by decide +kernel
theorem dX11_middle_118 : decode cX11_middle 118 = .ok (.i2l, 1) := by decide +kernel
theorem dX11_middle_119 : decode cX11_middle 119 = .ok (.lmul, 1) := by decide +kernel
theorem dX11_middle_120 : decode cX11_middle 120 = .ok (.lload 7, 2) := by decide +kernel
theorem dX11_middle_122 : decode cX11_middle 122 = .ok (.aload_n 0, 1) := by decide +kernel
theorem dX11_middle_123 : decode cX11_middle 123 = .ok (.getfield 24, 3) := by decide +kernel
theorem dX11_middle_126 : decode cX11_middle 126 = .ok (.iload 4, 2) := by decide +kernel
theorem dX11_middle_128 : decode cX11_middle 128 = .ok (.iaload, 1) := by decide +kernel
theorem dX11_middle_129 : decode cX11_middle 129 = .ok (.aload_n 0, 1) := by decide +kernel
theorem dX11_middle_130 : decode cX11_middle 130 = .ok (.getfield 24, 3) := by decide +kernel
theorem dX11_middle_133 : decode cX11_middle 133 = .ok (.iload_n 2, 1) := by decide +kernel
theorem dX11_middle_134 : decode cX11_middle 134 = .ok (.iaload, 1) := by decide +kernel
theorem dX11_middle_135 : decode cX11_middle 135 = .ok (.isub, 1) := by decide +kernel
theorem dX11_middle_136 : decode cX11_middle 136 = .ok (.i2l, 1) := by decide +kernel
theorem dX11_middle_137 : decode cX11_middle 137 = .ok (.lmul, 1) := by decide +kernel
theorem dX11_middle_138 : decode cX11_middle 138 = .ok (.ladd, 1) := by decide +kernel
theorem dX11_middle_139 : decode cX11_middle 139 = .ok (.lload 9, 2) := by decide +kernel
theorem dX11_middle_141 : decode cX11_middle 141 = .ok (.aload_n 0, 1) := by decide +kernel
theorem dX11_middle_142 : decode cX11_middle 142 = .ok (.getfield 24, 3) := by decide +kernel
theorem dX11_middle_145 : decode cX11_middle 145 = .ok (.iload_n 2, 1) := by decide +kernel
theorem dX11_middle_146 : decode cX11_middle 146 = .ok (.iaload, 1) := by decide +kernel
theorem dX11_middle_147 : decode cX11_middle 147 = .ok (.aload_n 0, 1) := by decide +kernel
theorem dX11_middle_148 : decode cX11_middle 148 = .ok (.getfield 24, 3) := by decide +kernel
theorem dX11_middle_151 : decode cX11_middle 151 = .ok (.iload_n 3, 1) := by decide +kernel
theorem dX11_middle_152 : decode cX11_middle 152 = .ok (.iaload, 1) := by decide +kernel
theorem dX11_middle_153 : decode cX11_middle 153 = .ok (.isub, 1) := by decide +kernel
theorem dX11_middle_154 : decode cX11_middle 154 = .ok (.i2l, 1) := by decide +kernel
theorem dX11_middle_155 : decode cX11_middle 155 = .ok (.lmul, 1) := by decide +kernel
theorem dX11_middle_156 : decode cX11_middle 156 = .ok (.ladd, 1) := by decide +kernel
theorem dX11_middle_157 : decode cX11_middle 157 = .ok (.putfield 270, 3) := by decide +kernel
theorem dX11_middle_160 : decode cX11_middle 160 = .ok (.aload_n 0, 1) := by decide +kernel
theorem dX11_middle_161 : decode cX11_middle 161 = .ok (.lload 5, 2) := by decide +kernel
theorem dX11_middle_163 : decode cX11_middle 163 = .ok (.aload_n 0, 1) := by decide +kernel
theorem dX11_middle_164 : decode cX11_middle 164 = .ok (.getfield 20, 3) := by decide +kernel
theorem dX11_middle_167 : decode cX11_middle 167 = .ok (.iload 4, 2) := by decide +kernel
theorem dX11_middle_169 : decode cX11_middle 169 = .ok (.iaload, 1) := by decide +kernel
theorem dX11_middle_170 : decode cX11_middle 170 = .ok (.aload_n 0, 1) := by decide +kernel
theorem dX11_middle_171 : decode cX11_middle 171 = .ok (.getfield 20, 3) := by decide +kernel
theorem dX11_middle_174 : decode cX11_middle 174 = .ok (.iload_n 3, 1) := by decide +kernel
theorem dX11_middle_175 : decode cX11_middle 175 = .ok (.iaload, 1) := by decide +kernel
theorem dX11_middle_176 : decode cX11_middle 176 = .ok (.isub, 1) := by decide +kernel
theorem dX11_middle_177 : decode cX11_middle 177 = .ok (.i2l, 1) := by decide +kernel
theorem dX11_middle_178 : decode cX11_middle 178 = .ok (.lmul, 1) := by decide +kernel
theorem dX11_middle_179 : decode cX11_middle 179 = .ok (.lload 7, 2) := by decide +kernel
theorem dX11_middle_181 : decode cX11_middle 181 = .ok (.aload_n 0, 1) := by decide +kernel
theorem dX11_middle_182 : decode cX11_middle 182 = .ok (.getfield 20, 3) := by decide +kernel
theorem dX11_middle_185 : decode cX11_middle 185 = .ok (.iload_n 2, 1) := by decide +kernel
theorem dX11_middle_186 : decode cX11_middle 186 = .ok (.iaload, 1) := by decide +kernel
theorem dX11_middle_187 : decode cX11_middle 187 = .ok (.aload_n 0, 1) := by decide +kernel
theorem dX11_middle_188 : decode cX11_middle 188 = .ok (.getfield 20, 3) := by decide +kernel
theorem dX11_middle_191 : decode cX11_middle 191 = .ok (.iload 4, 2) := by decide +kernel
theorem dX11_middle_193 : decode cX11_middle 193 = .ok (.iaload, 1) := by decide +kernel
theorem dX11_middle_194 : decode cX11_middle 194 = .ok (.isub, 1) := by decide +kernel
theorem dX11_middle_195 : decode cX11_middle 195 = .ok (.i2l, 1) := by decide +kernel
theorem dX11_middle_196 : decode cX11_middle 196 = .ok (.lmul, 1) := by decide +kernel
theorem dX11_middle_197 : decode cX11_middle 197 = .ok (.ladd, 1) := by decide +kernel
theorem dX11_middle_198 : decode cX11_middle 198 = .ok (.lload 9, 2) := by decide +kernel
theorem dX11_middle_200 : decode cX11_middle 200 = .ok (.aload_n 0, 1) := by decide +kernel
theorem dX11_middle_201 : decode cX11_middle 201 = .ok (.getfield 20, 3) := by decide +kernel
theorem dX11_middle_204 : decode cX11_middle 204 = .ok (.iload_n 3, 1) := by decide +kernel
theorem dX11_middle_205 : decode cX11_middle 205 = .ok (.iaload, 1) := by decide +kernel
theorem dX11_middle_206 : decode cX11_middle 206 = .ok (.aload_n 0, 1) := by decide +kernel
theorem dX11_middle_207 : decode cX11_middle 207 = .ok (.getfield 20, 3) := by decide +kernel
theorem dX11_middle_210 : decode cX11_middle 210 = .ok (.iload_n 2, 1) := by decide +kernel
theorem dX11_middle_211 : decode cX11_middle 211 = .ok (.iaload, 1) := by decide +kernel
theorem dX11_middle_212 : decode cX11_middle 212 = .ok (.isub, 1) := by decide +kernel
theorem dX11_middle_213 : decode cX11_middle 213 = .ok (.i2l, 1) := by decide +kernel
theorem dX11_middle_214 : decode cX11_middle 214 = .ok (.lmul, 1) := by decide +kernel
theorem dX11_middle_215 : decode cX11_middle 215 = .ok (.ladd, 1) := by decide +kernel
theorem dX11_middle_216 : decode cX11_middle 216 = .ok (.putfield 273, 3) := by decide +kernel
theorem dX11_middle_219 : decode cX11_middle 219 = .ok (.aload_n 0, 1) := by decide +kernel
theorem dX11_middle_220 : decode cX11_middle 220 = .ok (.getfield 266, 3) := by decide +kernel
theorem dX11_middle_223 : decode cX11_middle 223 = .ok (.lconst 0, 1) := by decide +kernel
theorem dX11_middle_224 : decode cX11_middle 224 = .ok (.lcmp, 1) := by decide +kernel
theorem dX11_middle_225 : decode cX11_middle 225 = .ok (.ifCond .ge 30, 3) := by decide +kernel
theorem dX11_middle_228 : decode cX11_middle 228 = .ok (.aload_n 0, 1) := by decide +kernel
theorem dX11_middle_229 : decode cX11_middle 229 = .ok (.aload_n 0, 1) := by decide +kernel
theorem dX11_middle_230 : decode cX11_middle 230 = .ok (.getfield 266, 3) := by decide +kernel
theorem dX11_middle_233 : decode cX11_middle 233 = .ok (.lneg, 1) := by decide +kernel
theorem dX11_middle_234 : decode cX11_middle 234 = .ok (.putfield 266, 3) := by decide +kernel
theorem dX11_middle_237 : decode cX11_middle 237 = .ok (.aload_n 0, 1) := by decide +kernel
theorem dX11_middle_238 : decode cX11_middle 238 = .ok (.aload_n 0, 1) := by decide +kernel
theorem dX11_middle_239 : decode cX11_middle 239 = .ok (.getfield 270, 3) := by decide +kernel
theorem dX11_middle_242 : decode cX11_middle 242 = .ok (.lneg, 1) := by decide +kernel
theorem dX11_middle_243 : decode cX11_middle 243 = .ok (.putfield 270, 3) := by decide +kernel
theorem dX11_middle_246 : decode cX11_middle 246 = .ok (.aload_n 0, 1) := by decide +kernel
theorem dX11_middle_247 : decode cX11_middle 247 = .ok (.aload_n 0, 1) := by decide +kernel
theorem dX11_middle_248 : decode cX11_middle 248 = .ok (.getfield 273, 3) := by decide +kernel
theorem dX11_middle_251 : decode cX11_middle 251 = .ok (.lneg, 1) := by decide +kernel
theorem dX11_middle_252 : decode cX11_middle 252 = .ok (.putfield 273, 3) := by decide +kernel
theorem dX11_middle_255 : decode cX11_middle 255 = .ok (.aload_n 0, 1) := by decide +kernel
theorem dX11_middle_256 : decode cX11_middle 256 = .ok (.aload_n 0, 1) := by decide +kernel
theorem dX11_middle_257 : decode cX11_middle 257 = .ok (.iload_n 2, 1) := by decide +kernel
theorem dX11_middle_258 : decode cX11_middle 258 = .ok (.iload_n 3, 1) := by decide +kernel
theorem dX11_middle_259 : decode cX11_middle 259 = .ok (.invokevirtual 276, 3) := by decide +kernel
theorem dX11_middle_262 : decode cX11_middle 262 = .ok (.aload_n 0, 1) := by decide +kernel
theorem dX11_middle_263 : decode cX11_middle 263 = .ok (.iload_n 3, 1) := by decide +kernel
theorem dX11_middle_264 : decode cX11_middle 264 = .ok (.iload 4, 2) := by decide +kernel
theorem dX11_middle_266 : decode cX11_middle 266 = .ok (.invokevirtual 276, 3) := by decide +kernel
theorem dX11_middle_269 : decode cX11_middle 269 = .ok (.lmul, 1) := by decide +kernel
theorem dX11_middle_270 : decode cX11_middle 270 = .ok (.aload_n 0, 1) := by decide +kernel
theorem dX11_middle_271 : decode cX11_middle 271 = .ok (.iload 4, 2) := by decide +kernel
theorem dX11_middle_273 : decode cX11_middle 273 = .ok (.iload_n 2, 1) := by decide +kernel
theorem dX11_middle_274 : decode cX11_middle 274 = .ok (.invokevirtual 276, 3) := by decide +kernel
theorem dX11_middle_277 : decode cX11_middle 277 = .ok (.lmul, 1) := by decide +kernel
theorem dX11_middle_278 : decode cX11_middle 278 = .ok (.putfield 279, 3) := by decide +kernel
theorem dX11_middle_281 : decode cX11_middle 281 = .ok (.aload_n 0, 1) := by decide +kernel
theorem dX11_middle_282 : decode cX11_middle 282 = .ok (.ldc2_w 282, 3) := by decide +kernel
theorem dX11_middle_285 : decode cX11_middle 285 = .ok (.lload 11, 2) := by decide +kernel
theorem dX11_middle_287 : decode cX11_middle 287 = .ok (.lmul, 1) := by decide +kernel
theorem dX11_middle_288 : decode cX11_middle 288 = .ok (.lload 11, 2) := by decide +kernel
theorem dX11_middle_290 : decode cX11_middle 290 = .ok (.lmul, 1) := by decide +kernel
theorem dX11_middle_291 : decode cX11_middle 291 = .ok (.putfield 284, 3) := by decide +kernel
theorem dX11_middle_294 : decode cX11_middle 294 = .ok (.return_, 1) := by decide +kernel
theorem dX11_middleTold_0 : decode cX11_middleTold 0 = .ok (.iload_n 1, 1) := by decide +kernel
theorem dX11_middleTold_1 : decode cX11_middleTold 1 = .ok (.tableswitch 104 0 5 #[39, 39, 60, 60, 82, 82], 39) := by decide +kernel
theorem dX11_middleTold_40 : decode cX11_middleTold 40 = .ok (.aload_n 0, 1) := by decide +kernel
theorem dX11_middleTold_41 : decode cX11_middleTold 41 = .ok (.getfield 270, 3) := by decide +kernel
theorem dX11_middleTold_44 : decode cX11_middleTold 44 = .ok (.aload_n 0, 1) := by decide +kernel
theorem dX11_middleTold_45 : decode cX11_middleTold 45 = .ok (.getfield 266, 3) := by decide +kernel
theorem dX11_middleTold_48 : decode cX11_middleTold 48 = .ok (.iload_n 1, 1) := by decide +kernel
theorem dX11_middleTold_49 : decode cX11_middleTold 49 = .ok (.ifCond .ne 7, 3) := by decide +kernel
theorem dX11_middleTold_52 : decode cX11_middleTold 52 = .ok (.iconst 1, 1) := by decide +kernel
theorem dX11_middleTold_53 : decode cX11_middleTold 53 = .ok (.goto 4, 3) := by decide +kernel
theorem dX11_middleTold_56 : decode cX11_middleTold 56 = .ok (.iconst 0, 1) := by decide +kernel
theorem dX11_middleTold_57 : decode cX11_middleTold 57 = .ok (.invokestatic 233, 3) := by decide +kernel
theorem dX11_middleTold_60 : decode cX11_middleTold 60 = .ok (.lreturn, 1) := by decide +kernel
theorem dX11_middleTold_61 : decode cX11_middleTold 61 = .ok (.aload_n 0, 1) := by decide +kernel
theorem dX11_middleTold_62 : decode cX11_middleTold 62 = .ok (.getfield 273, 3) := by decide +kernel
theorem dX11_middleTold_65 : decode cX11_middleTold 65 = .ok (.aload_n 0, 1) := by decide +kernel
theorem dX11_middleTold_66 : decode cX11_middleTold 66 = .ok (.getfield 266, 3) := by decide +kernel
theorem dX11_middleTold_69 : decode cX11_middleTold 69 = .ok (.iload_n 1, 1) := by decide +kernel
theorem dX11_middleTold_70 : decode cX11_middleTold 70 = .ok (.iconst 2, 1) := by decide +kernel
theorem dX11_middleTold_71 : decode cX11_middleTold 71 = .ok (.if_icmp .ne 7, 3) := by decide +kernel
theorem dX11_middleTold_74 : decode cX11_middleTold 74 = .ok (.iconst 1, 1) := by decide +kernel
theorem dX11_middleTold_75 : decode cX11_middleTold 75 = .ok (.goto 4, 3) := by decide +kernel
theorem dX11_middleTold_78 : decode cX11_middleTold 78 = .ok (.iconst 0, 1) := by decide +kernel
theorem dX11_middleTold_79 : decode cX11_middleTold 79 = .ok (.invokestatic 233, 3) := by decide +kernel
theorem dX11_middleTold_82 : decode cX11_middleTold 82 = .ok (.lreturn, 1) := by decide +kernel
theorem dX11_middleTold_83 : decode cX11_middleTold 83 = .ok (.aload_n 0, 1) := by decide +kernel
theorem dX11_middleTold_84 : decode cX11_middleTold 84 = .ok (.getfield 279, 3) := by decide +kernel
theorem dX11_middleTold_87 : decode cX11_middleTold 87 = .ok (.aload_n 0, 1) := by decide +kernel
theorem dX11_middleTold_88 : decode cX11_middleTold 88 = .ok (.getfield 284, 3) := by decide +kernel
theorem dX11_middleTold_91 : decode cX11_middleTold 91 = .ok (.iload_n 1, 1) := by decide +kernel
theorem dX11_middleTold_92 : decode cX11_middleTold 92 = .ok (.iconst 4, 1) := by decide +kernel
theorem dX11_middleTold_93 : decode cX11_middleTold 93 = .ok (.if_icmp .ne 7, 3) := by decide +kernel
theorem dX11_middleTold_96 : decode cX11_middleTold 96 = .ok (.iconst 1, 1) := by decide +kernel
theorem dX11_middleTold_97 : decode cX11_middleTold 97 = .ok (.goto 4, 3) := by decide +kernel
theorem dX11_middleTold_100 : decode cX11_middleTold 100 = .ok (.iconst 0, 1) := by decide +kernel
theorem dX11_middleTold_101 : decode cX11_middleTold 101 = .ok (.invokestatic 233, 3) := by decide +kernel
theorem dX11_middleTold_104 : decode cX11_middleTold 104 = .ok (.lreturn, 1) := by decide +kernel
theorem dX11_middleTold_105 : decode cX11_middleTold 105 = .ok (.ldc2_w 176, 3) := by decide +kernel
theorem dX11_middleTold_108 : decode cX11_middleTold 108 = .ok (.lreturn, 1) := by decide +kernel
theorem dX11_round_0 : decode cX11_round 0 = .ok (.aload_n 0, 1) := by decide +kernel
theorem dX11_round_1 : decode cX11_round 1 = .ok (.invokevirtual 263, 3) := by decide +kernel
theorem dX11_round_4 : decode cX11_round 4 = .ok (.iload_n 1, 1) := by decide +kernel
theorem dX11_round_5 : decode cX11_round 5 = .ok (.ifCond .lt 11, 3) := by decide +kernel
theorem dX11_round_8 : decode cX11_round 8 = .ok (.iload_n 1, 1) := by decide +kernel
theorem dX11_round_9 : decode cX11_round 9 = .ok (.aload_n 0, 1) := by decide +kernel
theorem dX11_round_10 : decode cX11_round 10 = .ok (.getfield 257, 3) := by decide +kernel
theorem dX11_round_13 : decode cX11_round 13 = .ok (.if_icmp .lt 7, 3) := by decide +kernel
theorem dX11_round_16 : decode cX11_round 16 = .ok (.ldc2_w 176, 3) := by decide +kernel
theorem dX11_round_19 : decode cX11_round 19 = .ok (.lreturn, 1) := by decide +kernel
theorem dX11_round_20 : decode cX11_round 20 = .ok (.aload_n 0, 1) := by decide +kernel
theorem dX11_round_21 : decode cX11_round 21 = .ok (.iload_n 1, 1) := by decide +kernel
theorem dX11_round_22 : decode cX11_round 22 = .ok (.invokevirtual 287, 3) := by decide +kernel
theorem dX11_round_25 : decode cX11_round 25 = .ok (.aload_n 0, 1) := by decide +kernel
theorem dX11_round_26 : decode cX11_round 26 = .ok (.iload_n 2, 1) := by decide +kernel
theorem dX11_round_27 : decode cX11_round 27 = .ok (.invokevirtual 290, 3) := by decide +kernel
theorem dX11_round_30 : decode cX11_round 30 = .ok (.lreturn, 1) := by decide +kernel
theorem dX11_fractions_0 : decode cX11_fractions 0 = .ok (.lload_n 0, 1) := by decide +kernel
theorem dX11_fractions_1 : decode cX11_fractions 1 = .ok (.lstore 8, 2) := by decide +kernel
theorem dX11_fractions_3 : decode cX11_fractions 3 = .ok (.lload_n 2, 1) := by decide +kernel
theorem dX11_fractions_4 : decode cX11_fractions 4 = .ok (.lstore 10, 2) := by decide +kernel
theorem dX11_fractions_6 : decode cX11_fractions 6 = .ok (.lload 4, 2) := by decide +kernel
theorem dX11_fractions_8 : decode cX11_fractions 8 = .ok (.lstore 12, 2) := by decide +kernel
theorem dX11_fractions_10 : decode cX11_fractions 10 = .ok (.lload 6, 2) := by decide +kernel
theorem dX11_fractions_12 : decode cX11_fractions 12 = .ok (.lstore 14, 2) := by decide +kernel
theorem dX11_fractions_14 : decode cX11_fractions 14 = .ok (.iconst 1, 1) := by decide +kernel
theorem dX11_fractions_15 : decode cX11_fractions 15 = .ok (.istore 16, 2) := by decide +kernel
theorem dX11_fractions_17 : decode cX11_fractions 17 = .ok (.lload 8, 2) := by decide +kernel
theorem dX11_fractions_19 : decode cX11_fractions 19 = .ok (.lload 10, 2) := by decide +kernel
theorem dX11_fractions_21 : decode cX11_fractions 21 = .ok (.ldiv, 1) := by decide +kernel
theorem dX11_fractions_22 : decode cX11_fractions 22 = .ok (.lstore 17, 2) := by decide +kernel
theorem dX11_fractions_24 : decode cX11_fractions 24 = .ok (.lload 12, 2) := by decide +kernel
theorem dX11_fractions_26 : decode cX11_fractions 26 = .ok (.lload 14, 2) := by decide +kernel
theorem dX11_fractions_28 : decode cX11_fractions 28 = .ok (.ldiv, 1) := by decide +kernel
theorem dX11_fractions_29 : decode cX11_fractions 29 = .ok (.lstore 19, 2) := by decide +kernel
theorem dX11_fractions_31 : decode cX11_fractions 31 = .ok (.lload 17, 2) := by decide +kernel
theorem dX11_fractions_33 : decode cX11_fractions 33 = .ok (.lload 19, 2) := by decide +kernel
theorem dX11_fractions_35 : decode cX11_fractions 35 = .ok (.lcmp, 1) := by decide +kernel
theorem dX11_fractions_36 : decode cX11_fractions 36 = .ok (.ifCond .eq 20, 3) := by decide +kernel
theorem dX11_fractions_39 : decode cX11_fractions 39 = .ok (.lload 17, 2) := by decide +kernel
theorem dX11_fractions_41 : decode cX11_fractions 41 = .ok (.lload 19, 2) := by decide +kernel
theorem dX11_fractions_43 : decode cX11_fractions 43 = .ok (.lcmp, 1) := by decide +kernel
theorem dX11_fractions_44 : decode cX11_fractions 44 = .ok (.ifCond .le 8, 3) := by decide +kernel
theorem dX11_fractions_47 : decode cX11_fractions 47 = .ok (.iload 16, 2) := by decide +kernel
theorem dX11_fractions_49 : decode cX11_fractions 49 = .ok (.goto 6, 3) := by decide +kernel
theorem dX11_fractions_52 : decode cX11_fractions 52 = .ok (.iload 16, 2) := by decide +kernel
theorem dX11_fractions_54 : decode cX11_fractions 54 = .ok (.ineg, 1) := by decide +kernel
theorem dX11_fractions_55 : decode cX11_fractions 55 = .ok (.ireturn, 1) := by decide +kernel
theorem dX11_fractions_56 : decode cX11_fractions 56 = .ok (.lload 8, 2) := by decide +kernel
theorem dX11_fractions_58 : decode cX11_fractions 58 = .ok (.lload 17, 2) := by decide +kernel
theorem dX11_fractions_60 : decode cX11_fractions 60 = .ok (.lload 10, 2) := by decide +kernel
theorem dX11_fractions_62 : decode cX11_fractions 62 = .ok (.lmul, 1) := by decide +kernel
theorem dX11_fractions_63 : decode cX11_fractions 63 = .ok (.lsub, 1) := by decide +kernel
theorem dX11_fractions_64 : decode cX11_fractions 64 = .ok (.lstore 8, 2) := by decide +kernel
theorem dX11_fractions_66 : decode cX11_fractions 66 = .ok (.lload 12, 2) := by decide +kernel
theorem dX11_fractions_68 : decode cX11_fractions 68 = .ok (.lload 19, 2) := by decide +kernel
theorem dX11_fractions_70 : decode cX11_fractions 70 = .ok (.lload 14, 2) := by decide +kernel
theorem dX11_fractions_72 : decode cX11_fractions 72 = .ok (.lmul, 1) := by decide +kernel
theorem dX11_fractions_73 : decode cX11_fractions 73 = .ok (.lsub, 1) := by decide +kernel
theorem dX11_fractions_74 : decode cX11_fractions 74 = .ok (.lstore 12, 2) := by decide +kernel
theorem dX11_fractions_76 : decode cX11_fractions 76 = .ok (.lload 8, 2) := by decide +kernel
theorem dX11_fractions_78 : decode cX11_fractions 78 = .ok (.lconst 0, 1) := by decide +kernel
theorem dX11_fractions_79 : decode cX11_fractions 79 = .ok (.lcmp, 1) := by decide +kernel
theorem dX11_fractions_80 : decode cX11_fractions 80 = .ok (.ifCond .eq 10, 3) := by decide +kernel
theorem dX11_fractions_83 : decode cX11_fractions 83 = .ok (.lload 12, 2) := by decide +kernel
theorem dX11_fractions_85 : decode cX11_fractions 85 = .ok (.lconst 0, 1) := by decide +kernel
theorem dX11_fractions_86 : decode cX11_fractions 86 = .ok (.lcmp, 1) := by decide +kernel
theorem dX11_fractions_87 : decode cX11_fractions 87 = .ok (.ifCond .ne 31, 3) := by decide +kernel
theorem dX11_fractions_90 : decode cX11_fractions 90 = .ok (.lload 8, 2) := by decide +kernel
theorem dX11_fractions_92 : decode cX11_fractions 92 = .ok (.lload 12, 2) := by decide +kernel
theorem dX11_fractions_94 : decode cX11_fractions 94 = .ok (.lcmp, 1) := by decide +kernel
theorem dX11_fractions_95 : decode cX11_fractions 95 = .ok (.ifCond .ne 7, 3) := by decide +kernel
theorem dX11_fractions_98 : decode cX11_fractions 98 = .ok (.iconst 0, 1) := by decide +kernel
theorem dX11_fractions_99 : decode cX11_fractions 99 = .ok (.goto 18, 3) := by decide +kernel
theorem dX11_fractions_102 : decode cX11_fractions 102 = .ok (.lload 8, 2) := by decide +kernel
theorem dX11_fractions_104 : decode cX11_fractions 104 = .ok (.lconst 0, 1) := by decide +kernel
theorem dX11_fractions_105 : decode cX11_fractions 105 = .ok (.lcmp, 1) := by decide +kernel
theorem dX11_fractions_106 : decode cX11_fractions 106 = .ok (.ifCond .ne 9, 3) := by decide +kernel
theorem dX11_fractions_109 : decode cX11_fractions 109 = .ok (.iload 16, 2) := by decide +kernel
theorem dX11_fractions_111 : decode cX11_fractions 111 = .ok (.ineg, 1) := by decide +kernel
theorem dX11_fractions_112 : decode cX11_fractions 112 = .ok (.goto 5, 3) := by decide +kernel
theorem dX11_fractions_115 : decode cX11_fractions 115 = .ok (.iload 16, 2) := by decide +kernel
theorem dX11_fractions_117 : decode cX11_fractions 117 = .ok (.ireturn, 1) := by decide +kernel
theorem dX11_fractions_118 : decode cX11_fractions 118 = .ok (.lload 8, 2) := by decide +kernel
theorem dX11_fractions_120 : decode cX11_fractions 120 = .ok (.lstore 21, 2) := by decide +kernel
theorem dX11_fractions_122 : decode cX11_fractions 122 = .ok (.lload 10, 2) := by decide +kernel
theorem dX11_fractions_124 : decode cX11_fractions 124 = .ok (.lstore 8, 2) := by decide +kernel
theorem dX11_fractions_126 : decode cX11_fractions 126 = .ok (.lload 21, 2) := by decide +kernel
theorem dX11_fractions_128 : decode cX11_fractions 128 = .ok (.lstore 10, 2) := by decide +kernel
theorem dX11_fractions_130 : decode cX11_fractions 130 = .ok (.lload 12, 2) := by decide +kernel
theorem dX11_fractions_132 : decode cX11_fractions 132 = .ok (.lstore 21, 2) := by decide +kernel
theorem dX11_fractions_134 : decode cX11_fractions 134 = .ok (.lload 14, 2) := by decide +kernel
theorem dX11_fractions_136 : decode cX11_fractions 136 = .ok (.lstore 12, 2) := by decide +kernel
theorem dX11_fractions_138 : decode cX11_fractions 138 = .ok (.lload 21, 2) := by decide +kernel
theorem dX11_fractions_140 : decode cX11_fractions 140 = .ok (.lstore 14, 2) := by decide +kernel
theorem dX11_fractions_142 : decode cX11_fractions 142 = .ok (.iload 16, 2) := by decide +kernel
theorem dX11_fractions_144 : decode cX11_fractions 144 = .ok (.ineg, 1) := by decide +kernel
theorem dX11_fractions_145 : decode cX11_fractions 145 = .ok (.istore 16, 2) := by decide +kernel
theorem dX11_fractions_147 : decode cX11_fractions 147 = .ok (.goto (-130), 3) := by decide +kernel
theorem dX11_better_0 : decode cX11_better 0 = .ok (.aload_n 0, 1) := by decide +kernel
theorem dX11_better_1 : decode cX11_better 1 = .ok (.getfield 293, 3) := by decide +kernel
theorem dX11_better_4 : decode cX11_better 4 = .ok (.ifCond .eq 25, 3) := by decide +kernel
theorem dX11_better_7 : decode cX11_better 7 = .ok (.aload_n 0, 1) := by decide +kernel
theorem dX11_better_8 : decode cX11_better 8 = .ok (.getfield 279, 3) := by decide +kernel
theorem dX11_better_11 : decode cX11_better 11 = .ok (.aload_n 0, 1) := by decide +kernel
theorem dX11_better_12 : decode cX11_better 12 = .ok (.getfield 284, 3) := by decide +kernel
theorem dX11_better_15 : decode cX11_better 15 = .ok (.aload_n 0, 1) := by decide +kernel
theorem dX11_better_16 : decode cX11_better 16 = .ok (.getfield 297, 3) := by decide +kernel
theorem dX11_better_19 : decode cX11_better 19 = .ok (.aload_n 0, 1) := by decide +kernel
theorem dX11_better_20 : decode cX11_better 20 = .ok (.getfield 300, 3) := by decide +kernel
theorem dX11_better_23 : decode cX11_better 23 = .ok (.invokestatic 303, 3) := by decide +kernel
theorem dX11_better_26 : decode cX11_better 26 = .ok (.goto 4, 3) := by decide +kernel
theorem dX11_better_29 : decode cX11_better 29 = .ok (.iconst 1, 1) := by decide +kernel
theorem dX11_better_30 : decode cX11_better 30 = .ok (.istore_n 1, 1) := by decide +kernel
theorem dX11_better_31 : decode cX11_better 31 = .ok (.iload_n 1, 1) := by decide +kernel
theorem dX11_better_32 : decode cX11_better 32 = .ok (.ifCond .ne 26, 3) := by decide +kernel
theorem dX11_better_35 : decode cX11_better 35 = .ok (.aload_n 0, 1) := by decide +kernel
theorem dX11_better_36 : decode cX11_better 36 = .ok (.getfield 306, 3) := by decide +kernel
theorem dX11_better_39 : decode cX11_better 39 = .ok (.aload_n 0, 1) := by decide +kernel
theorem dX11_better_40 : decode cX11_better 40 = .ok (.getfield 309, 3) := by decide +kernel
theorem dX11_better_43 : decode cX11_better 43 = .ok (.aload_n 0, 1) := by decide +kernel
theorem dX11_better_44 : decode cX11_better 44 = .ok (.getfield 270, 3) := by decide +kernel
theorem dX11_better_47 : decode cX11_better 47 = .ok (.aload_n 0, 1) := by decide +kernel
theorem dX11_better_48 : decode cX11_better 48 = .ok (.getfield 266, 3) := by decide +kernel
theorem dX11_better_51 : decode cX11_better 51 = .ok (.invokestatic 189, 3) := by decide +kernel
theorem dX11_better_54 : decode cX11_better 54 = .ok (.istore_n 1, 1) := by decide +kernel
theorem dX11_better_55 : decode cX11_better 55 = .ok (.goto 10, 3) := by decide +kernel
theorem dX11_better_58 : decode cX11_better 58 = .ok (.iload_n 1, 1) := by decide +kernel
theorem dX11_better_59 : decode cX11_better 59 = .ok (.ifCond .ge 4, 3) := by decide +kernel
theorem dX11_better_62 : decode cX11_better 62 = .ok (.return_, 1) := by decide +kernel
theorem dX11_better_63 : decode cX11_better 63 = .ok (.iconst 2, 1) := by decide +kernel
theorem dX11_better_64 : decode cX11_better 64 = .ok (.istore_n 1, 1) := by decide +kernel
theorem dX11_better_65 : decode cX11_better 65 = .ok (.iload_n 1, 1) := by decide +kernel
theorem dX11_better_66 : decode cX11_better 66 = .ok (.ifCond .ne 23, 3) := by decide +kernel
theorem dX11_better_69 : decode cX11_better 69 = .ok (.aload_n 0, 1) := by decide +kernel
theorem dX11_better_70 : decode cX11_better 70 = .ok (.getfield 312, 3) := by decide +kernel
theorem dX11_better_73 : decode cX11_better 73 = .ok (.aload_n 0, 1) := by decide +kernel
theorem dX11_better_74 : decode cX11_better 74 = .ok (.getfield 309, 3) := by decide +kernel
theorem dX11_better_77 : decode cX11_better 77 = .ok (.aload_n 0, 1) := by decide +kernel
theorem dX11_better_78 : decode cX11_better 78 = .ok (.getfield 273, 3) := by decide +kernel
theorem dX11_better_81 : decode cX11_better 81 = .ok (.aload_n 0, 1) := by decide +kernel
theorem dX11_better_82 : decode cX11_better 82 = .ok (.getfield 266, 3) := by decide +kernel
theorem dX11_better_85 : decode cX11_better 85 = .ok (.invokestatic 189, 3) := by decide +kernel
theorem dX11_better_88 : decode cX11_better 88 = .ok (.istore_n 1, 1) := by decide +kernel
theorem dX11_better_89 : decode cX11_better 89 = .ok (.iload_n 1, 1) := by decide +kernel
theorem dX11_better_90 : decode cX11_better 90 = .ok (.ifCond .gt 4, 3) := by decide +kernel
theorem dX11_better_93 : decode cX11_better 93 = .ok (.return_, 1) := by decide +kernel
theorem dX11_better_94 : decode cX11_better 94 = .ok (.aload_n 0, 1) := by decide +kernel
theorem dX11_better_95 : decode cX11_better 95 = .ok (.iconst 1, 1) := by decide +kernel
theorem dX11_better_96 : decode cX11_better 96 = .ok (.putfield 293, 3) := by decide +kernel
theorem dX11_better_99 : decode cX11_better 99 = .ok (.aload_n 0, 1) := by decide +kernel
theorem dX11_better_100 : decode cX11_better 100 = .ok (.aload_n 0, 1) := by decide +kernel
theorem dX11_better_101 : decode cX11_better 101 = .ok (.getfield 270, 3) := by decide +kernel
theorem dX11_better_104 : decode cX11_better 104 = .ok (.putfield 306, 3) := by decide +kernel
theorem dX11_better_107 : decode cX11_better 107 = .ok (.aload_n 0, 1) := by decide +kernel
theorem dX11_better_108 : decode cX11_better 108 = .ok (.aload_n 0, 1) := by decide +kernel
theorem dX11_better_109 : decode cX11_better 109 = .ok (.getfield 273, 3) := by decide +kernel
theorem dX11_better_112 : decode cX11_better 112 = .ok (.putfield 312, 3) := by decide +kernel
theorem dX11_better_115 : decode cX11_better 115 = .ok (.aload_n 0, 1) := by decide +kernel
theorem dX11_better_116 : decode cX11_better 116 = .ok (.aload_n 0, 1) := by decide +kernel
theorem dX11_better_117 : decode cX11_better 117 = .ok (.getfield 266, 3) := by decide +kernel
theorem dX11_better_120 : decode cX11_better 120 = .ok (.putfield 309, 3) := by decide +kernel
theorem dX11_better_123 : decode cX11_better 123 = .ok (.aload_n 0, 1) := by decide +kernel
theorem dX11_better_124 : decode cX11_better 124 = .ok (.aload_n 0, 1) := by decide +kernel
theorem dX11_better_125 : decode cX11_better 125 = .ok (.getfield 279, 3) := by decide +kernel
theorem dX11_better_128 : decode cX11_better 128 = .ok (.putfield 297, 3) := by decide +kernel
theorem dX11_better_131 : decode cX11_better 131 = .ok (.aload_n 0, 1) := by decide +kernel
theorem dX11_better_132 : decode cX11_better 132 = .ok (.aload_n 0, 1) := by decide +kernel
theorem dX11_better_133 : decode cX11_better 133 = .ok (.getfield 284, 3) := by decide +kernel
theorem dX11_better_136 : decode cX11_better 136 = .ok (.putfield 300, 3) := by decide +kernel
theorem dX11_better_139 : decode cX11_better 139 = .ok (.return_, 1) := by decide +kernel
theorem dX11_tries_0 : decode cX11_tries 0 = .ok (.aload_n 0, 1) := by decide +kernel
theorem dX11_tries_1 : decode cX11_tries 1 = .ok (.lload_n 1, 1) := by decide +kernel
theorem dX11_tries_2 : decode cX11_tries 2 = .ok (.putfield 270, 3) := by decide +kernel
theorem dX11_tries_5 : decode cX11_tries 5 = .ok (.aload_n 0, 1) := by decide +kernel
theorem dX11_tries_6 : decode cX11_tries 6 = .ok (.lload_n 3, 1) := by decide +kernel
theorem dX11_tries_7 : decode cX11_tries 7 = .ok (.putfield 273, 3) := by decide +kernel
theorem dX11_tries_10 : decode cX11_tries 10 = .ok (.aload_n 0, 1) := by decide +kernel
theorem dX11_tries_11 : decode cX11_tries 11 = .ok (.lload 5, 2) := by decide +kernel
theorem dX11_tries_13 : decode cX11_tries 13 = .ok (.putfield 266, 3) := by decide +kernel
theorem dX11_tries_16 : decode cX11_tries 16 = .ok (.aload_n 0, 1) := by decide +kernel
theorem dX11_tries_17 : decode cX11_tries 17 = .ok (.ldc2_w 176, 3) := by decide +kernel
theorem dX11_tries_20 : decode cX11_tries 20 = .ok (.putfield 279, 3) := by decide +kernel
theorem dX11_tries_23 : decode cX11_tries 23 = .ok (.aload_n 0, 1) := by decide +kernel
theorem dX11_tries_24 : decode cX11_tries 24 = .ok (.lload 5, 2) := by decide +kernel
theorem dX11_tries_26 : decode cX11_tries 26 = .ok (.lload 5, 2) := by decide +kernel
theorem dX11_tries_28 : decode cX11_tries 28 = .ok (.lmul, 1) := by decide +kernel
theorem dX11_tries_29 : decode cX11_tries 29 = .ok (.putfield 284, 3) := by decide +kernel
theorem dX11_tries_32 : decode cX11_tries 32 = .ok (.iconst 0, 1) := by decide +kernel
theorem dX11_tries_33 : decode cX11_tries 33 = .ok (.istore 7, 2) := by decide +kernel
theorem dX11_tries_35 : decode cX11_tries 35 = .ok (.iload 7, 2) := by decide +kernel
theorem dX11_tries_37 : decode cX11_tries 37 = .ok (.bipush 24, 2) := by decide +kernel
theorem dX11_tries_39 : decode cX11_tries 39 = .ok (.if_icmp .ge 79, 3) := by decide +kernel
theorem dX11_tries_42 : decode cX11_tries 42 = .ok (.aload_n 0, 1) := by decide +kernel
theorem dX11_tries_43 : decode cX11_tries 43 = .ok (.iload 7, 2) := by decide +kernel
theorem dX11_tries_45 : decode cX11_tries 45 = .ok (.invokevirtual 148, 3) := by decide +kernel
theorem dX11_tries_48 : decode cX11_tries 48 = .ok (.ifCond .ne 6, 3) := by decide +kernel
theorem dX11_tries_51 : decode cX11_tries 51 = .ok (.goto 61, 3) := by decide +kernel
theorem dX11_tries_54 : decode cX11_tries 54 = .ok (.lload_n 1, 1) := by decide +kernel
theorem dX11_tries_55 : decode cX11_tries 55 = .ok (.lload 5, 2) := by decide +kernel
theorem dX11_tries_57 : decode cX11_tries 57 = .ok (.aload_n 0, 1) := by decide +kernel
theorem dX11_tries_58 : decode cX11_tries 58 = .ok (.getfield 20, 3) := by decide +kernel
theorem dX11_tries_61 : decode cX11_tries 61 = .ok (.iload 7, 2) := by decide +kernel
theorem dX11_tries_63 : decode cX11_tries 63 = .ok (.iaload, 1) := by decide +kernel
theorem dX11_tries_64 : decode cX11_tries 64 = .ok (.i2l, 1) := by decide +kernel
theorem dX11_tries_65 : decode cX11_tries 65 = .ok (.lmul, 1) := by decide +kernel
theorem dX11_tries_66 : decode cX11_tries 66 = .ok (.lsub, 1) := by decide +kernel
theorem dX11_tries_67 : decode cX11_tries 67 = .ok (.lload_n 3, 1) := by decide +kernel
theorem dX11_tries_68 : decode cX11_tries 68 = .ok (.lload 5, 2) := by decide +kernel
theorem dX11_tries_70 : decode cX11_tries 70 = .ok (.aload_n 0, 1) := by decide +kernel
theorem dX11_tries_71 : decode cX11_tries 71 = .ok (.getfield 24, 3) := by decide +kernel
theorem dX11_tries_74 : decode cX11_tries 74 = .ok (.iload 7, 2) := by decide +kernel
theorem dX11_tries_76 : decode cX11_tries 76 = .ok (.iaload, 1) := by decide +kernel
theorem dX11_tries_77 : decode cX11_tries 77 = .ok (.i2l, 1) := by decide +kernel
theorem dX11_tries_78 : decode cX11_tries 78 = .ok (.lmul, 1) := by decide +kernel
theorem dX11_tries_79 : decode cX11_tries 79 = .ok (.lsub, 1) := by decide +kernel
theorem dX11_tries_80 : decode cX11_tries 80 = .ok (.invokestatic 247, 3) := by decide +kernel
theorem dX11_tries_83 : decode cX11_tries 83 = .ok (.lstore 8, 2) := by decide +kernel
theorem dX11_tries_85 : decode cX11_tries 85 = .ok (.aload_n 0, 1) := by decide +kernel
theorem dX11_tries_86 : decode cX11_tries 86 = .ok (.getfield 279, 3) := by decide +kernel
theorem dX11_tries_89 : decode cX11_tries 89 = .ok (.ldc2_w 176, 3) := by decide +kernel
theorem dX11_tries_92 : decode cX11_tries 92 = .ok (.lcmp, 1) := by decide +kernel
theorem dX11_tries_93 : decode cX11_tries 93 = .ok (.ifCond .eq 13, 3) := by decide +kernel
theorem dX11_tries_96 : decode cX11_tries 96 = .ok (.lload 8, 2) := by decide +kernel
theorem dX11_tries_98 : decode cX11_tries 98 = .ok (.aload_n 0, 1) := by decide +kernel
theorem dX11_tries_99 : decode cX11_tries 99 = .ok (.getfield 279, 3) := by decide +kernel
theorem dX11_tries_102 : decode cX11_tries 102 = .ok (.lcmp, 1) := by decide +kernel
theorem dX11_tries_103 : decode cX11_tries 103 = .ok (.ifCond .ge 9, 3) := by decide +kernel
theorem dX11_tries_106 : decode cX11_tries 106 = .ok (.aload_n 0, 1) := by decide +kernel
theorem dX11_tries_107 : decode cX11_tries 107 = .ok (.lload 8, 2) := by decide +kernel
theorem dX11_tries_109 : decode cX11_tries 109 = .ok (.putfield 279, 3) := by decide +kernel
theorem dX11_tries_112 : decode cX11_tries 112 = .ok (.iinc 7 1, 3) := by decide +kernel
theorem dX11_tries_115 : decode cX11_tries 115 = .ok (.goto (-80), 3) := by decide +kernel
theorem dX11_tries_118 : decode cX11_tries 118 = .ok (.aload_n 0, 1) := by decide +kernel
theorem dX11_tries_119 : decode cX11_tries 119 = .ok (.invokevirtual 315, 3) := by decide +kernel
theorem dX11_tries_122 : decode cX11_tries 122 = .ok (.return_, 1) := by decide +kernel
theorem dX11_triesSides_0 : decode cX11_triesSides 0 = .ok (.ldc2_w 166, 3) := by decide +kernel
theorem dX11_triesSides_3 : decode cX11_triesSides 3 = .ok (.aload_n 0, 1) := by decide +kernel
theorem dX11_triesSides_4 : decode cX11_triesSides 4 = .ok (.getfield 20, 3) := by decide +kernel
theorem dX11_triesSides_7 : decode cX11_triesSides 7 = .ok (.iload_n 2, 1) := by decide +kernel
theorem dX11_triesSides_8 : decode cX11_triesSides 8 = .ok (.iaload, 1) := by decide +kernel
theorem dX11_triesSides_9 : decode cX11_triesSides 9 = .ok (.aload_n 0, 1) := by decide +kernel
theorem dX11_triesSides_10 : decode cX11_triesSides 10 = .ok (.getfield 20, 3) := by decide +kernel
theorem dX11_triesSides_13 : decode cX11_triesSides 13 = .ok (.iload_n 1, 1) := by decide +kernel
theorem dX11_triesSides_14 : decode cX11_triesSides 14 = .ok (.iaload, 1) := by decide +kernel
theorem dX11_triesSides_15 : decode cX11_triesSides 15 = .ok (.isub, 1) := by decide +kernel
theorem dX11_triesSides_16 : decode cX11_triesSides 16 = .ok (.i2l, 1) := by decide +kernel
theorem dX11_triesSides_17 : decode cX11_triesSides 17 = .ok (.lmul, 1) := by decide +kernel
theorem dX11_triesSides_18 : decode cX11_triesSides 18 = .ok (.lstore_n 3, 1) := by decide +kernel
theorem dX11_triesSides_19 : decode cX11_triesSides 19 = .ok (.ldc2_w 166, 3) := by decide +kernel
theorem dX11_triesSides_22 : decode cX11_triesSides 22 = .ok (.aload_n 0, 1) := by decide +kernel
theorem dX11_triesSides_23 : decode cX11_triesSides 23 = .ok (.getfield 24, 3) := by decide +kernel
theorem dX11_triesSides_26 : decode cX11_triesSides 26 = .ok (.iload_n 2, 1) := by decide +kernel
theorem dX11_triesSides_27 : decode cX11_triesSides 27 = .ok (.iaload, 1) := by decide +kernel
theorem dX11_triesSides_28 : decode cX11_triesSides 28 = .ok (.aload_n 0, 1) := by decide +kernel
theorem dX11_triesSides_29 : decode cX11_triesSides 29 = .ok (.getfield 24, 3) := by decide +kernel
theorem dX11_triesSides_32 : decode cX11_triesSides 32 = .ok (.iload_n 1, 1) := by decide +kernel
theorem dX11_triesSides_33 : decode cX11_triesSides 33 = .ok (.iaload, 1) := by decide +kernel
theorem dX11_triesSides_34 : decode cX11_triesSides 34 = .ok (.isub, 1) := by decide +kernel
theorem dX11_triesSides_35 : decode cX11_triesSides 35 = .ok (.i2l, 1) := by decide +kernel
theorem dX11_triesSides_36 : decode cX11_triesSides 36 = .ok (.lmul, 1) := by decide +kernel
theorem dX11_triesSides_37 : decode cX11_triesSides 37 = .ok (.lstore 5, 2) := by decide +kernel
theorem dX11_triesSides_39 : decode cX11_triesSides 39 = .ok (.aload_n 0, 1) := by decide +kernel
theorem dX11_triesSides_40 : decode cX11_triesSides 40 = .ok (.getfield 20, 3) := by decide +kernel
theorem dX11_triesSides_43 : decode cX11_triesSides 43 = .ok (.iload_n 2, 1) := by decide +kernel
theorem dX11_triesSides_44 : decode cX11_triesSides 44 = .ok (.iaload, 1) := by decide +kernel
theorem dX11_triesSides_45 : decode cX11_triesSides 45 = .ok (.i2l, 1) := by decide +kernel
theorem dX11_triesSides_46 : decode cX11_triesSides 46 = .ok (.aload_n 0, 1) := by decide +kernel
theorem dX11_triesSides_47 : decode cX11_triesSides 47 = .ok (.getfield 24, 3) := by decide +kernel
theorem dX11_triesSides_50 : decode cX11_triesSides 50 = .ok (.iload_n 2, 1) := by decide +kernel
theorem dX11_triesSides_51 : decode cX11_triesSides 51 = .ok (.iaload, 1) := by decide +kernel
theorem dX11_triesSides_52 : decode cX11_triesSides 52 = .ok (.i2l, 1) := by decide +kernel
theorem dX11_triesSides_53 : decode cX11_triesSides 53 = .ok (.invokestatic 247, 3) := by decide +kernel
theorem dX11_triesSides_56 : decode cX11_triesSides 56 = .ok (.aload_n 0, 1) := by decide +kernel
theorem dX11_triesSides_57 : decode cX11_triesSides 57 = .ok (.getfield 20, 3) := by decide +kernel
theorem dX11_triesSides_60 : decode cX11_triesSides 60 = .ok (.iload_n 1, 1) := by decide +kernel
theorem dX11_triesSides_61 : decode cX11_triesSides 61 = .ok (.iaload, 1) := by decide +kernel
theorem dX11_triesSides_62 : decode cX11_triesSides 62 = .ok (.i2l, 1) := by decide +kernel
theorem dX11_triesSides_63 : decode cX11_triesSides 63 = .ok (.aload_n 0, 1) := by decide +kernel
theorem dX11_triesSides_64 : decode cX11_triesSides 64 = .ok (.getfield 24, 3) := by decide +kernel
theorem dX11_triesSides_67 : decode cX11_triesSides 67 = .ok (.iload_n 1, 1) := by decide +kernel
theorem dX11_triesSides_68 : decode cX11_triesSides 68 = .ok (.iaload, 1) := by decide +kernel
theorem dX11_triesSides_69 : decode cX11_triesSides 69 = .ok (.i2l, 1) := by decide +kernel
theorem dX11_triesSides_70 : decode cX11_triesSides 70 = .ok (.invokestatic 247, 3) := by decide +kernel
theorem dX11_triesSides_73 : decode cX11_triesSides 73 = .ok (.lsub, 1) := by decide +kernel
theorem dX11_triesSides_74 : decode cX11_triesSides 74 = .ok (.lstore 7, 2) := by decide +kernel
theorem dX11_triesSides_76 : decode cX11_triesSides 76 = .ok (.iconst 0, 1) := by decide +kernel
theorem dX11_triesSides_77 : decode cX11_triesSides 77 = .ok (.istore 9, 2) := by decide +kernel
theorem dX11_triesSides_79 : decode cX11_triesSides 79 = .ok (.iload 9, 2) := by decide +kernel
theorem dX11_triesSides_81 : decode cX11_triesSides 81 = .ok (.iconst 2, 1) := by decide +kernel
theorem dX11_triesSides_82 : decode cX11_triesSides 82 = .ok (.if_icmp .ge 99, 3) := by decide +kernel
theorem dX11_triesSides_85 : decode cX11_triesSides 85 = .ok (.aload_n 0, 1) := by decide +kernel
theorem dX11_triesSides_86 : decode cX11_triesSides 86 = .ok (.lload 5, 2) := by decide +kernel
theorem dX11_triesSides_88 : decode cX11_triesSides 88 = .ok (.lload 7, 2) := by decide +kernel
theorem dX11_triesSides_90 : decode cX11_triesSides 90 = .ok (.lload_n 3, 1) := by decide +kernel
theorem dX11_triesSides_91 : decode cX11_triesSides 91 = .ok (.iload 9, 2) := by decide +kernel
theorem dX11_triesSides_93 : decode cX11_triesSides 93 = .ok (.ifCond .ne 7, 3) := by decide +kernel
theorem dX11_triesSides_96 : decode cX11_triesSides 96 = .ok (.lconst 0, 1) := by decide +kernel
theorem dX11_triesSides_97 : decode cX11_triesSides 97 = .ok (.goto 8, 3) := by decide +kernel
theorem dX11_triesSides_100 : decode cX11_triesSides 100 = .ok (.aload_n 0, 1) := by decide +kernel
theorem dX11_triesSides_101 : decode cX11_triesSides 101 = .ok (.getfield 7, 3) := by decide +kernel
theorem dX11_triesSides_104 : decode cX11_triesSides 104 = .ok (.i2l, 1) := by decide +kernel
theorem dX11_triesSides_105 : decode cX11_triesSides 105 = .ok (.lmul, 1) := by decide +kernel
theorem dX11_triesSides_106 : decode cX11_triesSides 106 = .ok (.lsub, 1) := by decide +kernel
theorem dX11_triesSides_107 : decode cX11_triesSides 107 = .ok (.iload 9, 2) := by decide +kernel
theorem dX11_triesSides_109 : decode cX11_triesSides 109 = .ok (.ifCond .ne 7, 3) := by decide +kernel
theorem dX11_triesSides_112 : decode cX11_triesSides 112 = .ok (.lconst 0, 1) := by decide +kernel
theorem dX11_triesSides_113 : decode cX11_triesSides 113 = .ok (.goto 8, 3) := by decide +kernel
theorem dX11_triesSides_116 : decode cX11_triesSides 116 = .ok (.aload_n 0, 1) := by decide +kernel
theorem dX11_triesSides_117 : decode cX11_triesSides 117 = .ok (.getfield 7, 3) := by decide +kernel
theorem dX11_triesSides_120 : decode cX11_triesSides 120 = .ok (.i2l, 1) := by decide +kernel
theorem dX11_triesSides_121 : decode cX11_triesSides 121 = .ok (.iconst 1, 1) := by decide +kernel
theorem dX11_triesSides_122 : decode cX11_triesSides 122 = .ok (.aload_n 0, 1) := by decide +kernel
theorem dX11_triesSides_123 : decode cX11_triesSides 123 = .ok (.getfield 13, 3) := by decide +kernel
theorem dX11_triesSides_126 : decode cX11_triesSides 126 = .ok (.i2l, 1) := by decide +kernel
theorem dX11_triesSides_127 : decode cX11_triesSides 127 = .ok (.invokevirtual 318, 3) := by decide +kernel
theorem dX11_triesSides_130 : decode cX11_triesSides 130 = .ok (.aload_n 0, 1) := by decide +kernel
theorem dX11_triesSides_131 : decode cX11_triesSides 131 = .ok (.lload_n 3, 1) := by decide +kernel
theorem dX11_triesSides_132 : decode cX11_triesSides 132 = .ok (.lload 7, 2) := by decide +kernel
theorem dX11_triesSides_134 : decode cX11_triesSides 134 = .ok (.lload 5, 2) := by decide +kernel
theorem dX11_triesSides_136 : decode cX11_triesSides 136 = .ok (.iload 9, 2) := by decide +kernel
theorem dX11_triesSides_138 : decode cX11_triesSides 138 = .ok (.ifCond .ne 7, 3) := by decide +kernel
theorem dX11_triesSides_141 : decode cX11_triesSides 141 = .ok (.lconst 0, 1) := by decide +kernel
theorem dX11_triesSides_142 : decode cX11_triesSides 142 = .ok (.goto 8, 3) := by decide +kernel
theorem dX11_triesSides_145 : decode cX11_triesSides 145 = .ok (.aload_n 0, 1) := by decide +kernel
theorem dX11_triesSides_146 : decode cX11_triesSides 146 = .ok (.getfield 13, 3) := by decide +kernel
theorem dX11_triesSides_149 : decode cX11_triesSides 149 = .ok (.i2l, 1) := by decide +kernel
theorem dX11_triesSides_150 : decode cX11_triesSides 150 = .ok (.lmul, 1) := by decide +kernel
theorem dX11_triesSides_151 : decode cX11_triesSides 151 = .ok (.lsub, 1) := by decide +kernel
theorem dX11_triesSides_152 : decode cX11_triesSides 152 = .ok (.iload 9, 2) := by decide +kernel
theorem dX11_triesSides_154 : decode cX11_triesSides 154 = .ok (.ifCond .ne 7, 3) := by decide +kernel
theorem dX11_triesSides_157 : decode cX11_triesSides 157 = .ok (.lconst 0, 1) := by decide +kernel
theorem dX11_triesSides_158 : decode cX11_triesSides 158 = .ok (.goto 8, 3) := by decide +kernel
theorem dX11_triesSides_161 : decode cX11_triesSides 161 = .ok (.aload_n 0, 1) := by decide +kernel
theorem dX11_triesSides_162 : decode cX11_triesSides 162 = .ok (.getfield 13, 3) := by decide +kernel
theorem dX11_triesSides_165 : decode cX11_triesSides 165 = .ok (.i2l, 1) := by decide +kernel
theorem dX11_triesSides_166 : decode cX11_triesSides 166 = .ok (.iconst 0, 1) := by decide +kernel
theorem dX11_triesSides_167 : decode cX11_triesSides 167 = .ok (.aload_n 0, 1) := by decide +kernel
theorem dX11_triesSides_168 : decode cX11_triesSides 168 = .ok (.getfield 7, 3) := by decide +kernel
theorem dX11_triesSides_171 : decode cX11_triesSides 171 = .ok (.i2l, 1) := by decide +kernel
theorem dX11_triesSides_172 : decode cX11_triesSides 172 = .ok (.invokevirtual 318, 3) := by decide +kernel
theorem dX11_triesSides_175 : decode cX11_triesSides 175 = .ok (.iinc 9 1, 3) := by decide +kernel
theorem dX11_triesSides_178 : decode cX11_triesSides 178 = .ok (.goto (-99), 3) := by decide +kernel
theorem dX11_triesSides_181 : decode cX11_triesSides 181 = .ok (.return_, 1) := by decide +kernel
theorem dX11_triesOn_0 : decode cX11_triesOn 0 = .ok (.lload_n 1, 1) := by decide +kernel
theorem dX11_triesOn_1 : decode cX11_triesOn 1 = .ok (.lconst 0, 1) := by decide +kernel
theorem dX11_triesOn_2 : decode cX11_triesOn 2 = .ok (.lcmp, 1) := by decide +kernel
theorem dX11_triesOn_3 : decode cX11_triesOn 3 = .ok (.ifCond .ne 4, 3) := by decide +kernel
theorem dX11_triesOn_6 : decode cX11_triesOn 6 = .ok (.return_, 1) := by decide +kernel
theorem dX11_triesOn_7 : decode cX11_triesOn 7 = .ok (.lload_n 1, 1) := by decide +kernel
theorem dX11_triesOn_8 : decode cX11_triesOn 8 = .ok (.lconst 0, 1) := by decide +kernel
theorem dX11_triesOn_9 : decode cX11_triesOn 9 = .ok (.lcmp, 1) := by decide +kernel
theorem dX11_triesOn_10 : decode cX11_triesOn 10 = .ok (.ifCond .ge 8, 3) := by decide +kernel
theorem dX11_triesOn_13 : decode cX11_triesOn 13 = .ok (.lload_n 1, 1) := by decide +kernel
theorem dX11_triesOn_14 : decode cX11_triesOn 14 = .ok (.lneg, 1) := by decide +kernel
theorem dX11_triesOn_15 : decode cX11_triesOn 15 = .ok (.goto 4, 3) := by decide +kernel
theorem dX11_triesOn_18 : decode cX11_triesOn 18 = .ok (.lload_n 1, 1) := by decide +kernel
theorem dX11_triesOn_19 : decode cX11_triesOn 19 = .ok (.lstore 10, 2) := by decide +kernel
theorem dX11_triesOn_21 : decode cX11_triesOn 21 = .ok (.lload_n 1, 1) := by decide +kernel
theorem dX11_triesOn_22 : decode cX11_triesOn 22 = .ok (.lconst 0, 1) := by decide +kernel
theorem dX11_triesOn_23 : decode cX11_triesOn 23 = .ok (.lcmp, 1) := by decide +kernel
theorem dX11_triesOn_24 : decode cX11_triesOn 24 = .ok (.ifCond .ge 8, 3) := by decide +kernel
theorem dX11_triesOn_27 : decode cX11_triesOn 27 = .ok (.lload_n 3, 1) := by decide +kernel
theorem dX11_triesOn_28 : decode cX11_triesOn 28 = .ok (.lneg, 1) := by decide +kernel
theorem dX11_triesOn_29 : decode cX11_triesOn 29 = .ok (.goto 4, 3) := by decide +kernel
theorem dX11_triesOn_32 : decode cX11_triesOn 32 = .ok (.lload_n 3, 1) := by decide +kernel
theorem dX11_triesOn_33 : decode cX11_triesOn 33 = .ok (.lstore 12, 2) := by decide +kernel
theorem dX11_triesOn_35 : decode cX11_triesOn 35 = .ok (.lload 12, 2) := by decide +kernel
theorem dX11_triesOn_37 : decode cX11_triesOn 37 = .ok (.lconst 0, 1) := by decide +kernel
theorem dX11_triesOn_38 : decode cX11_triesOn 38 = .ok (.lcmp, 1) := by decide +kernel
theorem dX11_triesOn_39 : decode cX11_triesOn 39 = .ok (.ifCond .lt 14, 3) := by decide +kernel
theorem dX11_triesOn_42 : decode cX11_triesOn 42 = .ok (.lload 12, 2) := by decide +kernel
theorem dX11_triesOn_44 : decode cX11_triesOn 44 = .ok (.lload 8, 2) := by decide +kernel
theorem dX11_triesOn_46 : decode cX11_triesOn 46 = .ok (.lload 10, 2) := by decide +kernel
theorem dX11_triesOn_48 : decode cX11_triesOn 48 = .ok (.lmul, 1) := by decide +kernel
theorem dX11_triesOn_49 : decode cX11_triesOn 49 = .ok (.lcmp, 1) := by decide +kernel
theorem dX11_triesOn_50 : decode cX11_triesOn 50 = .ok (.ifCond .le 4, 3) := by decide +kernel
theorem dX11_triesOn_53 : decode cX11_triesOn 53 = .ok (.return_, 1) := by decide +kernel
theorem dX11_triesOn_54 : decode cX11_triesOn 54 = .ok (.iload 7, 2) := by decide +kernel
theorem dX11_triesOn_56 : decode cX11_triesOn 56 = .ok (.ifCond .eq 19, 3) := by decide +kernel
theorem dX11_triesOn_59 : decode cX11_triesOn 59 = .ok (.aload_n 0, 1) := by decide +kernel
theorem dX11_triesOn_60 : decode cX11_triesOn 60 = .ok (.lload 5, 2) := by decide +kernel
theorem dX11_triesOn_62 : decode cX11_triesOn 62 = .ok (.lload 10, 2) := by decide +kernel
theorem dX11_triesOn_64 : decode cX11_triesOn 64 = .ok (.lmul, 1) := by decide +kernel
theorem dX11_triesOn_65 : decode cX11_triesOn 65 = .ok (.lload 12, 2) := by decide +kernel
theorem dX11_triesOn_67 : decode cX11_triesOn 67 = .ok (.lload 10, 2) := by decide +kernel
theorem dX11_triesOn_69 : decode cX11_triesOn 69 = .ok (.invokevirtual 322, 3) := by decide +kernel
theorem dX11_triesOn_72 : decode cX11_triesOn 72 = .ok (.goto 16, 3) := by decide +kernel
theorem dX11_triesOn_75 : decode cX11_triesOn 75 = .ok (.aload_n 0, 1) := by decide +kernel
theorem dX11_triesOn_76 : decode cX11_triesOn 76 = .ok (.lload 12, 2) := by decide +kernel
theorem dX11_triesOn_78 : decode cX11_triesOn 78 = .ok (.lload 5, 2) := by decide +kernel
theorem dX11_triesOn_80 : decode cX11_triesOn 80 = .ok (.lload 10, 2) := by decide +kernel
theorem dX11_triesOn_82 : decode cX11_triesOn 82 = .ok (.lmul, 1) := by decide +kernel
theorem dX11_triesOn_83 : decode cX11_triesOn 83 = .ok (.lload 10, 2) := by decide +kernel
theorem dX11_triesOn_85 : decode cX11_triesOn 85 = .ok (.invokevirtual 322, 3) := by decide +kernel
theorem dX11_triesOn_88 : decode cX11_triesOn 88 = .ok (.return_, 1) := by decide +kernel
theorem dX11_largestOf_0 : decode cX11_largestOf 0 = .ok (.aload_n 0, 1) := by decide +kernel
theorem dX11_largestOf_1 : decode cX11_largestOf 1 = .ok (.iconst 0, 1) := by decide +kernel
theorem dX11_largestOf_2 : decode cX11_largestOf 2 = .ok (.putfield 293, 3) := by decide +kernel
theorem dX11_largestOf_5 : decode cX11_largestOf 5 = .ok (.iconst 0, 1) := by decide +kernel
theorem dX11_largestOf_6 : decode cX11_largestOf 6 = .ok (.istore_n 1, 1) := by decide +kernel
theorem dX11_largestOf_7 : decode cX11_largestOf 7 = .ok (.iload_n 1, 1) := by decide +kernel
theorem dX11_largestOf_8 : decode cX11_largestOf 8 = .ok (.iconst 4, 1) := by decide +kernel
theorem dX11_largestOf_9 : decode cX11_largestOf 9 = .ok (.if_icmp .ge 47, 3) := by decide +kernel
theorem dX11_largestOf_12 : decode cX11_largestOf 12 = .ok (.aload_n 0, 1) := by decide +kernel
theorem dX11_largestOf_13 : decode cX11_largestOf 13 = .ok (.iload_n 1, 1) := by decide +kernel
theorem dX11_largestOf_14 : decode cX11_largestOf 14 = .ok (.iconst 1, 1) := by decide +kernel
theorem dX11_largestOf_15 : decode cX11_largestOf 15 = .ok (.if_icmp .eq 8, 3) := by decide +kernel
theorem dX11_largestOf_18 : decode cX11_largestOf 18 = .ok (.iload_n 1, 1) := by decide +kernel
theorem dX11_largestOf_19 : decode cX11_largestOf 19 = .ok (.iconst 2, 1) := by decide +kernel
theorem dX11_largestOf_20 : decode cX11_largestOf 20 = .ok (.if_icmp .ne 11, 3) := by decide +kernel
theorem dX11_largestOf_23 : decode cX11_largestOf 23 = .ok (.aload_n 0, 1) := by decide +kernel
theorem dX11_largestOf_24 : decode cX11_largestOf 24 = .ok (.getfield 7, 3) := by decide +kernel
theorem dX11_largestOf_27 : decode cX11_largestOf 27 = .ok (.i2l, 1) := by decide +kernel
theorem dX11_largestOf_28 : decode cX11_largestOf 28 = .ok (.goto 4, 3) := by decide +kernel
theorem dX11_largestOf_31 : decode cX11_largestOf 31 = .ok (.lconst 0, 1) := by decide +kernel
theorem dX11_largestOf_32 : decode cX11_largestOf 32 = .ok (.iload_n 1, 1) := by decide +kernel
theorem dX11_largestOf_33 : decode cX11_largestOf 33 = .ok (.iconst 1, 1) := by decide +kernel
theorem dX11_largestOf_34 : decode cX11_largestOf 34 = .ok (.if_icmp .le 11, 3) := by decide +kernel
theorem dX11_largestOf_37 : decode cX11_largestOf 37 = .ok (.aload_n 0, 1) := by decide +kernel
theorem dX11_largestOf_38 : decode cX11_largestOf 38 = .ok (.getfield 13, 3) := by decide +kernel
theorem dX11_largestOf_41 : decode cX11_largestOf 41 = .ok (.i2l, 1) := by decide +kernel
theorem dX11_largestOf_42 : decode cX11_largestOf 42 = .ok (.goto 4, 3) := by decide +kernel
theorem dX11_largestOf_45 : decode cX11_largestOf 45 = .ok (.lconst 0, 1) := by decide +kernel
theorem dX11_largestOf_46 : decode cX11_largestOf 46 = .ok (.lconst 1, 1) := by decide +kernel
theorem dX11_largestOf_47 : decode cX11_largestOf 47 = .ok (.invokevirtual 322, 3) := by decide +kernel
theorem dX11_largestOf_50 : decode cX11_largestOf 50 = .ok (.iinc 1 1, 3) := by decide +kernel
theorem dX11_largestOf_53 : decode cX11_largestOf 53 = .ok (.goto (-46), 3) := by decide +kernel
theorem dX11_largestOf_56 : decode cX11_largestOf 56 = .ok (.iconst 0, 1) := by decide +kernel
theorem dX11_largestOf_57 : decode cX11_largestOf 57 = .ok (.istore_n 1, 1) := by decide +kernel
theorem dX11_largestOf_58 : decode cX11_largestOf 58 = .ok (.iload_n 1, 1) := by decide +kernel
theorem dX11_largestOf_59 : decode cX11_largestOf 59 = .ok (.bipush 24, 2) := by decide +kernel
theorem dX11_largestOf_61 : decode cX11_largestOf 61 = .ok (.if_icmp .ge 47, 3) := by decide +kernel
theorem dX11_largestOf_64 : decode cX11_largestOf 64 = .ok (.iload_n 1, 1) := by decide +kernel
theorem dX11_largestOf_65 : decode cX11_largestOf 65 = .ok (.iconst 1, 1) := by decide +kernel
theorem dX11_largestOf_66 : decode cX11_largestOf 66 = .ok (.iadd, 1) := by decide +kernel
theorem dX11_largestOf_67 : decode cX11_largestOf 67 = .ok (.istore_n 2, 1) := by decide +kernel
theorem dX11_largestOf_68 : decode cX11_largestOf 68 = .ok (.iload_n 2, 1) := by decide +kernel
theorem dX11_largestOf_69 : decode cX11_largestOf 69 = .ok (.bipush 24, 2) := by decide +kernel
theorem dX11_largestOf_71 : decode cX11_largestOf 71 = .ok (.if_icmp .ge 31, 3) := by decide +kernel
theorem dX11_largestOf_74 : decode cX11_largestOf 74 = .ok (.aload_n 0, 1) := by decide +kernel
theorem dX11_largestOf_75 : decode cX11_largestOf 75 = .ok (.iload_n 1, 1) := by decide +kernel
theorem dX11_largestOf_76 : decode cX11_largestOf 76 = .ok (.invokevirtual 148, 3) := by decide +kernel
theorem dX11_largestOf_79 : decode cX11_largestOf 79 = .ok (.ifCond .eq 17, 3) := by decide +kernel
theorem dX11_largestOf_82 : decode cX11_largestOf 82 = .ok (.aload_n 0, 1) := by decide +kernel
theorem dX11_largestOf_83 : decode cX11_largestOf 83 = .ok (.iload_n 2, 1) := by decide +kernel
theorem dX11_largestOf_84 : decode cX11_largestOf 84 = .ok (.invokevirtual 148, 3) := by decide +kernel
theorem dX11_largestOf_87 : decode cX11_largestOf 87 = .ok (.ifCond .eq 9, 3) := by decide +kernel
theorem dX11_largestOf_90 : decode cX11_largestOf 90 = .ok (.aload_n 0, 1) := by decide +kernel
theorem dX11_largestOf_91 : decode cX11_largestOf 91 = .ok (.iload_n 1, 1) := by decide +kernel
theorem dX11_largestOf_92 : decode cX11_largestOf 92 = .ok (.iload_n 2, 1) := by decide +kernel
theorem dX11_largestOf_93 : decode cX11_largestOf 93 = .ok (.invokevirtual 325, 3) := by decide +kernel
theorem dX11_largestOf_96 : decode cX11_largestOf 96 = .ok (.iinc 2 1, 3) := by decide +kernel
theorem dX11_largestOf_99 : decode cX11_largestOf 99 = .ok (.goto (-31), 3) := by decide +kernel
theorem dX11_largestOf_102 : decode cX11_largestOf 102 = .ok (.iinc 1 1, 3) := by decide +kernel
theorem dX11_largestOf_105 : decode cX11_largestOf 105 = .ok (.goto (-47), 3) := by decide +kernel
theorem dX11_largestOf_108 : decode cX11_largestOf 108 = .ok (.aload_n 0, 1) := by decide +kernel
theorem dX11_largestOf_109 : decode cX11_largestOf 109 = .ok (.invokevirtual 263, 3) := by decide +kernel
theorem dX11_largestOf_112 : decode cX11_largestOf 112 = .ok (.iconst 0, 1) := by decide +kernel
theorem dX11_largestOf_113 : decode cX11_largestOf 113 = .ok (.istore_n 1, 1) := by decide +kernel
theorem dX11_largestOf_114 : decode cX11_largestOf 114 = .ok (.iload_n 1, 1) := by decide +kernel
theorem dX11_largestOf_115 : decode cX11_largestOf 115 = .ok (.aload_n 0, 1) := by decide +kernel
theorem dX11_largestOf_116 : decode cX11_largestOf 116 = .ok (.getfield 257, 3) := by decide +kernel
theorem dX11_largestOf_119 : decode cX11_largestOf 119 = .ok (.if_icmp .ge 72, 3) := by decide +kernel
theorem dX11_largestOf_122 : decode cX11_largestOf 122 = .ok (.aload_n 0, 1) := by decide +kernel
theorem dX11_largestOf_123 : decode cX11_largestOf 123 = .ok (.iload_n 1, 1) := by decide +kernel
theorem dX11_largestOf_124 : decode cX11_largestOf 124 = .ok (.invokevirtual 287, 3) := by decide +kernel
theorem dX11_largestOf_127 : decode cX11_largestOf 127 = .ok (.aload_n 0, 1) := by decide +kernel
theorem dX11_largestOf_128 : decode cX11_largestOf 128 = .ok (.getfield 270, 3) := by decide +kernel
theorem dX11_largestOf_131 : decode cX11_largestOf 131 = .ok (.lconst 0, 1) := by decide +kernel
theorem dX11_largestOf_132 : decode cX11_largestOf 132 = .ok (.lcmp, 1) := by decide +kernel
theorem dX11_largestOf_133 : decode cX11_largestOf 133 = .ok (.ifCond .lt 52, 3) := by decide +kernel
theorem dX11_largestOf_136 : decode cX11_largestOf 136 = .ok (.aload_n 0, 1) := by decide +kernel
theorem dX11_largestOf_137 : decode cX11_largestOf 137 = .ok (.getfield 270, 3) := by decide +kernel
theorem dX11_largestOf_140 : decode cX11_largestOf 140 = .ok (.aload_n 0, 1) := by decide +kernel
theorem dX11_largestOf_141 : decode cX11_largestOf 141 = .ok (.getfield 7, 3) := by decide +kernel
theorem dX11_largestOf_144 : decode cX11_largestOf 144 = .ok (.i2l, 1) := by decide +kernel
theorem dX11_largestOf_145 : decode cX11_largestOf 145 = .ok (.aload_n 0, 1) := by decide +kernel
theorem dX11_largestOf_146 : decode cX11_largestOf 146 = .ok (.getfield 266, 3) := by decide +kernel
theorem dX11_largestOf_149 : decode cX11_largestOf 149 = .ok (.lmul, 1) := by decide +kernel
theorem dX11_largestOf_150 : decode cX11_largestOf 150 = .ok (.lcmp, 1) := by decide +kernel
theorem dX11_largestOf_151 : decode cX11_largestOf 151 = .ok (.ifCond .gt 34, 3) := by decide +kernel
theorem dX11_largestOf_154 : decode cX11_largestOf 154 = .ok (.aload_n 0, 1) := by decide +kernel
theorem dX11_largestOf_155 : decode cX11_largestOf 155 = .ok (.getfield 273, 3) := by decide +kernel
theorem dX11_largestOf_158 : decode cX11_largestOf 158 = .ok (.lconst 0, 1) := by decide +kernel
theorem dX11_largestOf_159 : decode cX11_largestOf 159 = .ok (.lcmp, 1) := by decide +kernel
theorem dX11_largestOf_160 : decode cX11_largestOf 160 = .ok (.ifCond .lt 25, 3) := by decide +kernel
theorem dX11_largestOf_163 : decode cX11_largestOf 163 = .ok (.aload_n 0, 1) := by decide +kernel
theorem dX11_largestOf_164 : decode cX11_largestOf 164 = .ok (.getfield 273, 3) := by decide +kernel
theorem dX11_largestOf_167 : decode cX11_largestOf 167 = .ok (.aload_n 0, 1) := by decide +kernel
theorem dX11_largestOf_168 : decode cX11_largestOf 168 = .ok (.getfield 13, 3) := by decide +kernel
theorem dX11_largestOf_171 : decode cX11_largestOf 171 = .ok (.i2l, 1) := by decide +kernel
theorem dX11_largestOf_172 : decode cX11_largestOf 172 = .ok (.aload_n 0, 1) := by decide +kernel
theorem dX11_largestOf_173 : decode cX11_largestOf 173 = .ok (.getfield 266, 3) := by decide +kernel
theorem dX11_largestOf_176 : decode cX11_largestOf 176 = .ok (.lmul, 1) := by decide +kernel
theorem dX11_largestOf_177 : decode cX11_largestOf 177 = .ok (.lcmp, 1) := by decide +kernel
theorem dX11_largestOf_178 : decode cX11_largestOf 178 = .ok (.ifCond .gt 7, 3) := by decide +kernel
theorem dX11_largestOf_181 : decode cX11_largestOf 181 = .ok (.aload_n 0, 1) := by decide +kernel
theorem dX11_largestOf_182 : decode cX11_largestOf 182 = .ok (.invokevirtual 315, 3) := by decide +kernel
theorem dX11_largestOf_185 : decode cX11_largestOf 185 = .ok (.iinc 1 1, 3) := by decide +kernel
theorem dX11_largestOf_188 : decode cX11_largestOf 188 = .ok (.goto (-74), 3) := by decide +kernel
theorem dX11_largestOf_191 : decode cX11_largestOf 191 = .ok (.return_, 1) := by decide +kernel
theorem dX11_largest_0 : decode cX11_largest 0 = .ok (.aload_n 0, 1) := by decide +kernel
theorem dX11_largest_1 : decode cX11_largest 1 = .ok (.iconst 1, 1) := by decide +kernel
theorem dX11_largest_2 : decode cX11_largest 2 = .ok (.invokevirtual 144, 3) := by decide +kernel
theorem dX11_largest_5 : decode cX11_largest 5 = .ok (.ifCond .eq 12, 3) := by decide +kernel
theorem dX11_largest_8 : decode cX11_largest 8 = .ok (.iload_n 1, 1) := by decide +kernel
theorem dX11_largest_9 : decode cX11_largest 9 = .ok (.ifCond .lt 8, 3) := by decide +kernel
theorem dX11_largest_12 : decode cX11_largest 12 = .ok (.iload_n 1, 1) := by decide +kernel
theorem dX11_largest_13 : decode cX11_largest 13 = .ok (.iconst 5, 1) := by decide +kernel
theorem dX11_largest_14 : decode cX11_largest 14 = .ok (.if_icmp .le 7, 3) := by decide +kernel
theorem dX11_largest_17 : decode cX11_largest 17 = .ok (.ldc2_w 176, 3) := by decide +kernel
theorem dX11_largest_20 : decode cX11_largest 20 = .ok (.lreturn, 1) := by decide +kernel
theorem dX11_largest_21 : decode cX11_largest 21 = .ok (.aload_n 0, 1) := by decide +kernel
theorem dX11_largest_22 : decode cX11_largest 22 = .ok (.invokevirtual 328, 3) := by decide +kernel
theorem dX11_largest_25 : decode cX11_largest 25 = .ok (.aload_n 0, 1) := by decide +kernel
theorem dX11_largest_26 : decode cX11_largest 26 = .ok (.aload_n 0, 1) := by decide +kernel
theorem dX11_largest_27 : decode cX11_largest 27 = .ok (.getfield 306, 3) := by decide +kernel
theorem dX11_largest_30 : decode cX11_largest 30 = .ok (.putfield 270, 3) := by decide +kernel
theorem dX11_largest_33 : decode cX11_largest 33 = .ok (.aload_n 0, 1) := by decide +kernel
theorem dX11_largest_34 : decode cX11_largest 34 = .ok (.aload_n 0, 1) := by decide +kernel
theorem dX11_largest_35 : decode cX11_largest 35 = .ok (.getfield 312, 3) := by decide +kernel
theorem dX11_largest_38 : decode cX11_largest 38 = .ok (.putfield 273, 3) := by decide +kernel
theorem dX11_largest_41 : decode cX11_largest 41 = .ok (.aload_n 0, 1) := by decide +kernel
theorem dX11_largest_42 : decode cX11_largest 42 = .ok (.aload_n 0, 1) := by decide +kernel
theorem dX11_largest_43 : decode cX11_largest 43 = .ok (.getfield 309, 3) := by decide +kernel
theorem dX11_largest_46 : decode cX11_largest 46 = .ok (.putfield 266, 3) := by decide +kernel
theorem dX11_largest_49 : decode cX11_largest 49 = .ok (.aload_n 0, 1) := by decide +kernel
theorem dX11_largest_50 : decode cX11_largest 50 = .ok (.aload_n 0, 1) := by decide +kernel
theorem dX11_largest_51 : decode cX11_largest 51 = .ok (.getfield 297, 3) := by decide +kernel
theorem dX11_largest_54 : decode cX11_largest 54 = .ok (.putfield 279, 3) := by decide +kernel
theorem dX11_largest_57 : decode cX11_largest 57 = .ok (.aload_n 0, 1) := by decide +kernel
theorem dX11_largest_58 : decode cX11_largest 58 = .ok (.aload_n 0, 1) := by decide +kernel
theorem dX11_largest_59 : decode cX11_largest 59 = .ok (.getfield 300, 3) := by decide +kernel
theorem dX11_largest_62 : decode cX11_largest 62 = .ok (.putfield 284, 3) := by decide +kernel
theorem dX11_largest_65 : decode cX11_largest 65 = .ok (.aload_n 0, 1) := by decide +kernel
theorem dX11_largest_66 : decode cX11_largest 66 = .ok (.iload_n 1, 1) := by decide +kernel
theorem dX11_largest_67 : decode cX11_largest 67 = .ok (.invokevirtual 290, 3) := by decide +kernel
theorem dX11_largest_70 : decode cX11_largest 70 = .ok (.lreturn, 1) := by decide +kernel
theorem dX11_closest_0 : decode cX11_closest 0 = .ok (.iconst (-1), 1) := by decide +kernel
theorem dX11_closest_1 : decode cX11_closest 1 = .ok (.istore_n 2, 1) := by decide +kernel
theorem dX11_closest_2 : decode cX11_closest 2 = .ok (.iconst (-1), 1) := by decide +kernel
theorem dX11_closest_3 : decode cX11_closest 3 = .ok (.istore_n 3, 1) := by decide +kernel
theorem dX11_closest_4 : decode cX11_closest 4 = .ok (.iconst 0, 1) := by decide +kernel
theorem dX11_closest_5 : decode cX11_closest 5 = .ok (.istore 4, 2) := by decide +kernel
theorem dX11_closest_7 : decode cX11_closest 7 = .ok (.iload 4, 2) := by decide +kernel
theorem dX11_closest_9 : decode cX11_closest 9 = .ok (.bipush 24, 2) := by decide +kernel
theorem dX11_closest_11 : decode cX11_closest 11 = .ok (.if_icmp .ge 78, 3) := by decide +kernel
theorem dX11_closest_14 : decode cX11_closest 14 = .ok (.iload 4, 2) := by decide +kernel
theorem dX11_closest_16 : decode cX11_closest 16 = .ok (.iconst 1, 1) := by decide +kernel
theorem dX11_closest_17 : decode cX11_closest 17 = .ok (.iadd, 1) := by decide +kernel
theorem dX11_closest_18 : decode cX11_closest 18 = .ok (.istore 5, 2) := by decide +kernel
theorem dX11_closest_20 : decode cX11_closest 20 = .ok (.iload 5, 2) := by decide +kernel
theorem dX11_closest_22 : decode cX11_closest 22 = .ok (.bipush 24, 2) := by decide +kernel
theorem dX11_closest_24 : decode cX11_closest 24 = .ok (.if_icmp .ge 59, 3) := by decide +kernel
theorem dX11_closest_27 : decode cX11_closest 27 = .ok (.aload_n 0, 1) := by decide +kernel
theorem dX11_closest_28 : decode cX11_closest 28 = .ok (.iload 4, 2) := by decide +kernel
theorem dX11_closest_30 : decode cX11_closest 30 = .ok (.invokevirtual 148, 3) := by decide +kernel
theorem dX11_closest_33 : decode cX11_closest 33 = .ok (.ifCond .eq 44, 3) := by decide +kernel
theorem dX11_closest_36 : decode cX11_closest 36 = .ok (.aload_n 0, 1) := by decide +kernel
theorem dX11_closest_37 : decode cX11_closest 37 = .ok (.iload 5, 2) := by decide +kernel
theorem dX11_closest_39 : decode cX11_closest 39 = .ok (.invokevirtual 148, 3) := by decide +kernel
theorem dX11_closest_42 : decode cX11_closest 42 = .ok (.ifCond .eq 35, 3) := by decide +kernel
theorem dX11_closest_45 : decode cX11_closest 45 = .ok (.iload_n 2, 1) := by decide +kernel
theorem dX11_closest_46 : decode cX11_closest 46 = .ok (.iconst (-1), 1) := by decide +kernel
theorem dX11_closest_47 : decode cX11_closest 47 = .ok (.if_icmp .eq 24, 3) := by decide +kernel
theorem dX11_closest_50 : decode cX11_closest 50 = .ok (.aload_n 0, 1) := by decide +kernel
theorem dX11_closest_51 : decode cX11_closest 51 = .ok (.iload 4, 2) := by decide +kernel
theorem dX11_closest_53 : decode cX11_closest 53 = .ok (.iload 5, 2) := by decide +kernel
theorem dX11_closest_55 : decode cX11_closest 55 = .ok (.invokevirtual 276, 3) := by decide +kernel
theorem dX11_closest_58 : decode cX11_closest 58 = .ok (.aload_n 0, 1) := by decide +kernel
theorem dX11_closest_59 : decode cX11_closest 59 = .ok (.iload_n 2, 1) := by decide +kernel
theorem dX11_closest_60 : decode cX11_closest 60 = .ok (.iload_n 3, 1) := by decide +kernel
theorem dX11_closest_61 : decode cX11_closest 61 = .ok (.invokevirtual 276, 3) := by decide +kernel
theorem dX11_closest_64 : decode cX11_closest 64 = .ok (.lcmp, 1) := by decide +kernel
theorem dX11_closest_65 : decode cX11_closest 65 = .ok (.ifCond .lt 6, 3) := by decide +kernel
theorem dX11_closest_68 : decode cX11_closest 68 = .ok (.goto 9, 3) := by decide +kernel
theorem dX11_closest_71 : decode cX11_closest 71 = .ok (.iload 4, 2) := by decide +kernel
theorem dX11_closest_73 : decode cX11_closest 73 = .ok (.istore_n 2, 1) := by decide +kernel
theorem dX11_closest_74 : decode cX11_closest 74 = .ok (.iload 5, 2) := by decide +kernel
theorem dX11_closest_76 : decode cX11_closest 76 = .ok (.istore_n 3, 1) := by decide +kernel
theorem dX11_closest_77 : decode cX11_closest 77 = .ok (.iinc 5 1, 3) := by decide +kernel
theorem dX11_closest_80 : decode cX11_closest 80 = .ok (.goto (-60), 3) := by decide +kernel
theorem dX11_closest_83 : decode cX11_closest 83 = .ok (.iinc 4 1, 3) := by decide +kernel
theorem dX11_closest_86 : decode cX11_closest 86 = .ok (.goto (-79), 3) := by decide +kernel
theorem dX11_closest_89 : decode cX11_closest 89 = .ok (.iload_n 2, 1) := by decide +kernel
theorem dX11_closest_90 : decode cX11_closest 90 = .ok (.iconst (-1), 1) := by decide +kernel
theorem dX11_closest_91 : decode cX11_closest 91 = .ok (.if_icmp .ne 5, 3) := by decide +kernel
theorem dX11_closest_94 : decode cX11_closest 94 = .ok (.iconst (-1), 1) := by decide +kernel
theorem dX11_closest_95 : decode cX11_closest 95 = .ok (.ireturn, 1) := by decide +kernel
theorem dX11_closest_96 : decode cX11_closest 96 = .ok (.iload_n 1, 1) := by decide +kernel
theorem dX11_closest_97 : decode cX11_closest 97 = .ok (.ifCond .ne 7, 3) := by decide +kernel
theorem dX11_closest_100 : decode cX11_closest 100 = .ok (.iload_n 2, 1) := by decide +kernel
theorem dX11_closest_101 : decode cX11_closest 101 = .ok (.goto 28, 3) := by decide +kernel
theorem dX11_closest_104 : decode cX11_closest 104 = .ok (.iload_n 1, 1) := by decide +kernel
theorem dX11_closest_105 : decode cX11_closest 105 = .ok (.iconst 1, 1) := by decide +kernel
theorem dX11_closest_106 : decode cX11_closest 106 = .ok (.if_icmp .ne 7, 3) := by decide +kernel
theorem dX11_closest_109 : decode cX11_closest 109 = .ok (.iload_n 3, 1) := by decide +kernel
theorem dX11_closest_110 : decode cX11_closest 110 = .ok (.goto 19, 3) := by decide +kernel
theorem dX11_closest_113 : decode cX11_closest 113 = .ok (.iload_n 1, 1) := by decide +kernel
theorem dX11_closest_114 : decode cX11_closest 114 = .ok (.iconst 2, 1) := by decide +kernel
theorem dX11_closest_115 : decode cX11_closest 115 = .ok (.if_icmp .ne 13, 3) := by decide +kernel
theorem dX11_closest_118 : decode cX11_closest 118 = .ok (.aload_n 0, 1) := by decide +kernel
theorem dX11_closest_119 : decode cX11_closest 119 = .ok (.iload_n 2, 1) := by decide +kernel
theorem dX11_closest_120 : decode cX11_closest 120 = .ok (.iload_n 3, 1) := by decide +kernel
theorem dX11_closest_121 : decode cX11_closest 121 = .ok (.invokevirtual 276, 3) := by decide +kernel
theorem dX11_closest_124 : decode cX11_closest 124 = .ok (.l2i, 1) := by decide +kernel
theorem dX11_closest_125 : decode cX11_closest 125 = .ok (.goto 4, 3) := by decide +kernel
theorem dX11_closest_128 : decode cX11_closest 128 = .ok (.iconst (-1), 1) := by decide +kernel
theorem dX11_closest_129 : decode cX11_closest 129 = .ok (.ireturn, 1) := by decide +kernel
theorem dX11_nearest_0 : decode cX11_nearest 0 = .ok (.aload_n 0, 1) := by decide +kernel
theorem dX11_nearest_1 : decode cX11_nearest 1 = .ok (.iload_n 1, 1) := by decide +kernel
theorem dX11_nearest_2 : decode cX11_nearest 2 = .ok (.invokevirtual 148, 3) := by decide +kernel
theorem dX11_nearest_5 : decode cX11_nearest 5 = .ok (.ifCond .ne 5, 3) := by decide +kernel
theorem dX11_nearest_8 : decode cX11_nearest 8 = .ok (.iconst (-1), 1) := by decide +kernel
theorem dX11_nearest_9 : decode cX11_nearest 9 = .ok (.ireturn, 1) := by decide +kernel
theorem dX11_nearest_10 : decode cX11_nearest 10 = .ok (.iconst (-1), 1) := by decide +kernel
theorem dX11_nearest_11 : decode cX11_nearest 11 = .ok (.istore_n 2, 1) := by decide +kernel
theorem dX11_nearest_12 : decode cX11_nearest 12 = .ok (.iconst 0, 1) := by decide +kernel
theorem dX11_nearest_13 : decode cX11_nearest 13 = .ok (.istore_n 3, 1) := by decide +kernel
theorem dX11_nearest_14 : decode cX11_nearest 14 = .ok (.iload_n 3, 1) := by decide +kernel
theorem dX11_nearest_15 : decode cX11_nearest 15 = .ok (.bipush 24, 2) := by decide +kernel
theorem dX11_nearest_17 : decode cX11_nearest 17 = .ok (.if_icmp .ge 45, 3) := by decide +kernel
theorem dX11_nearest_20 : decode cX11_nearest 20 = .ok (.iload_n 3, 1) := by decide +kernel
theorem dX11_nearest_21 : decode cX11_nearest 21 = .ok (.iload_n 1, 1) := by decide +kernel
theorem dX11_nearest_22 : decode cX11_nearest 22 = .ok (.if_icmp .eq 34, 3) := by decide +kernel
theorem dX11_nearest_25 : decode cX11_nearest 25 = .ok (.aload_n 0, 1) := by decide +kernel
theorem dX11_nearest_26 : decode cX11_nearest 26 = .ok (.iload_n 3, 1) := by decide +kernel
theorem dX11_nearest_27 : decode cX11_nearest 27 = .ok (.invokevirtual 148, 3) := by decide +kernel
theorem dX11_nearest_30 : decode cX11_nearest 30 = .ok (.ifCond .eq 26, 3) := by decide +kernel
theorem dX11_nearest_33 : decode cX11_nearest 33 = .ok (.iload_n 2, 1) := by decide +kernel
theorem dX11_nearest_34 : decode cX11_nearest 34 = .ok (.iconst (-1), 1) := by decide +kernel
theorem dX11_nearest_35 : decode cX11_nearest 35 = .ok (.if_icmp .eq 19, 3) := by decide +kernel
theorem dX11_nearest_38 : decode cX11_nearest 38 = .ok (.aload_n 0, 1) := by decide +kernel
theorem dX11_nearest_39 : decode cX11_nearest 39 = .ok (.iload_n 3, 1) := by decide +kernel
theorem dX11_nearest_40 : decode cX11_nearest 40 = .ok (.iload_n 1, 1) := by decide +kernel
theorem dX11_nearest_41 : decode cX11_nearest 41 = .ok (.invokevirtual 276, 3) := by decide +kernel
theorem dX11_nearest_44 : decode cX11_nearest 44 = .ok (.aload_n 0, 1) := by decide +kernel
theorem dX11_nearest_45 : decode cX11_nearest 45 = .ok (.iload_n 2, 1) := by decide +kernel
theorem dX11_nearest_46 : decode cX11_nearest 46 = .ok (.iload_n 1, 1) := by decide +kernel
theorem dX11_nearest_47 : decode cX11_nearest 47 = .ok (.invokevirtual 276, 3) := by decide +kernel
theorem dX11_nearest_50 : decode cX11_nearest 50 = .ok (.lcmp, 1) := by decide +kernel
theorem dX11_nearest_51 : decode cX11_nearest 51 = .ok (.ifCond .ge 5, 3) := by decide +kernel
theorem dX11_nearest_54 : decode cX11_nearest 54 = .ok (.iload_n 3, 1) := by decide +kernel
theorem dX11_nearest_55 : decode cX11_nearest 55 = .ok (.istore_n 2, 1) := by decide +kernel
theorem dX11_nearest_56 : decode cX11_nearest 56 = .ok (.iinc 3 1, 3) := by decide +kernel
theorem dX11_nearest_59 : decode cX11_nearest 59 = .ok (.goto (-45), 3) := by decide +kernel
theorem dX11_nearest_62 : decode cX11_nearest 62 = .ok (.iload_n 2, 1) := by decide +kernel
theorem dX11_nearest_63 : decode cX11_nearest 63 = .ok (.ireturn, 1) := by decide +kernel
theorem dX11_tree_0 : decode cX11_tree 0 = .ok (.aload_n 0, 1) := by decide +kernel
theorem dX11_tree_1 : decode cX11_tree 1 = .ok (.iconst 0, 1) := by decide +kernel
theorem dX11_tree_2 : decode cX11_tree 2 = .ok (.putfield 331, 3) := by decide +kernel
theorem dX11_tree_5 : decode cX11_tree 5 = .ok (.iconst 0, 1) := by decide +kernel
theorem dX11_tree_6 : decode cX11_tree 6 = .ok (.istore_n 1, 1) := by decide +kernel
theorem dX11_tree_7 : decode cX11_tree 7 = .ok (.iload_n 1, 1) := by decide +kernel
theorem dX11_tree_8 : decode cX11_tree 8 = .ok (.bipush 24, 2) := by decide +kernel
theorem dX11_tree_10 : decode cX11_tree 10 = .ok (.if_icmp .ge 16, 3) := by decide +kernel
theorem dX11_tree_13 : decode cX11_tree 13 = .ok (.aload_n 0, 1) := by decide +kernel
theorem dX11_tree_14 : decode cX11_tree 14 = .ok (.getfield 97, 3) := by decide +kernel
theorem dX11_tree_17 : decode cX11_tree 17 = .ok (.iload_n 1, 1) := by decide +kernel
theorem dX11_tree_18 : decode cX11_tree 18 = .ok (.iload_n 1, 1) := by decide +kernel
theorem dX11_tree_19 : decode cX11_tree 19 = .ok (.iastore, 1) := by decide +kernel
theorem dX11_tree_20 : decode cX11_tree 20 = .ok (.iinc 1 1, 3) := by decide +kernel
theorem dX11_tree_23 : decode cX11_tree 23 = .ok (.goto (-16), 3) := by decide +kernel
theorem dX11_tree_26 : decode cX11_tree 26 = .ok (.iconst 1, 1) := by decide +kernel
theorem dX11_tree_27 : decode cX11_tree 27 = .ok (.istore_n 1, 1) := by decide +kernel
theorem dX11_tree_28 : decode cX11_tree 28 = .ok (.iload_n 1, 1) := by decide +kernel
theorem dX11_tree_29 : decode cX11_tree 29 = .ok (.ifCond .eq 209, 3) := by decide +kernel
theorem dX11_tree_32 : decode cX11_tree 32 = .ok (.iconst (-1), 1) := by decide +kernel
theorem dX11_tree_33 : decode cX11_tree 33 = .ok (.istore_n 2, 1) := by decide +kernel
theorem dX11_tree_34 : decode cX11_tree 34 = .ok (.iconst (-1), 1) := by decide +kernel
theorem dX11_tree_35 : decode cX11_tree 35 = .ok (.istore_n 3, 1) := by decide +kernel
theorem dX11_tree_36 : decode cX11_tree 36 = .ok (.iconst 0, 1) := by decide +kernel
theorem dX11_tree_37 : decode cX11_tree 37 = .ok (.istore 4, 2) := by decide +kernel
theorem dX11_tree_39 : decode cX11_tree 39 = .ok (.iload 4, 2) := by decide +kernel
theorem dX11_tree_41 : decode cX11_tree 41 = .ok (.bipush 24, 2) := by decide +kernel
theorem dX11_tree_43 : decode cX11_tree 43 = .ok (.if_icmp .ge 95, 3) := by decide +kernel
theorem dX11_tree_46 : decode cX11_tree 46 = .ok (.iload 4, 2) := by decide +kernel
theorem dX11_tree_48 : decode cX11_tree 48 = .ok (.iconst 1, 1) := by decide +kernel
theorem dX11_tree_49 : decode cX11_tree 49 = .ok (.iadd, 1) := by decide +kernel
theorem dX11_tree_50 : decode cX11_tree 50 = .ok (.istore 5, 2) := by decide +kernel
theorem dX11_tree_52 : decode cX11_tree 52 = .ok (.iload 5, 2) := by decide +kernel
theorem dX11_tree_54 : decode cX11_tree 54 = .ok (.bipush 24, 2) := by decide +kernel
theorem dX11_tree_56 : decode cX11_tree 56 = .ok (.if_icmp .ge 76, 3) := by decide +kernel
theorem dX11_tree_59 : decode cX11_tree 59 = .ok (.aload_n 0, 1) := by decide +kernel
theorem dX11_tree_60 : decode cX11_tree 60 = .ok (.iload 4, 2) := by decide +kernel
theorem dX11_tree_62 : decode cX11_tree 62 = .ok (.invokevirtual 148, 3) := by decide +kernel
theorem dX11_tree_65 : decode cX11_tree 65 = .ok (.ifCond .eq 61, 3) := by decide +kernel
theorem dX11_tree_68 : decode cX11_tree 68 = .ok (.aload_n 0, 1) := by decide +kernel
theorem dX11_tree_69 : decode cX11_tree 69 = .ok (.iload 5, 2) := by decide +kernel
theorem dX11_tree_71 : decode cX11_tree 71 = .ok (.invokevirtual 148, 3) := by decide +kernel
theorem dX11_tree_74 : decode cX11_tree 74 = .ok (.ifCond .eq 52, 3) := by decide +kernel
theorem dX11_tree_77 : decode cX11_tree 77 = .ok (.aload_n 0, 1) := by decide +kernel
theorem dX11_tree_78 : decode cX11_tree 78 = .ok (.getfield 97, 3) := by decide +kernel
theorem dX11_tree_81 : decode cX11_tree 81 = .ok (.iload 4, 2) := by decide +kernel
theorem dX11_tree_83 : decode cX11_tree 83 = .ok (.iaload, 1) := by decide +kernel
theorem dX11_tree_84 : decode cX11_tree 84 = .ok (.aload_n 0, 1) := by decide +kernel
theorem dX11_tree_85 : decode cX11_tree 85 = .ok (.getfield 97, 3) := by decide +kernel
theorem dX11_tree_88 : decode cX11_tree 88 = .ok (.iload 5, 2) := by decide +kernel
theorem dX11_tree_90 : decode cX11_tree 90 = .ok (.iaload, 1) := by decide +kernel
theorem dX11_tree_91 : decode cX11_tree 91 = .ok (.if_icmp .eq 35, 3) := by decide +kernel
theorem dX11_tree_94 : decode cX11_tree 94 = .ok (.iload_n 2, 1) := by decide +kernel
theorem dX11_tree_95 : decode cX11_tree 95 = .ok (.iconst (-1), 1) := by decide +kernel
theorem dX11_tree_96 : decode cX11_tree 96 = .ok (.if_icmp .eq 24, 3) := by decide +kernel
theorem dX11_tree_99 : decode cX11_tree 99 = .ok (.aload_n 0, 1) := by decide +kernel
theorem dX11_tree_100 : decode cX11_tree 100 = .ok (.iload 4, 2) := by decide +kernel
theorem dX11_tree_102 : decode cX11_tree 102 = .ok (.iload 5, 2) := by decide +kernel
theorem dX11_tree_104 : decode cX11_tree 104 = .ok (.invokevirtual 276, 3) := by decide +kernel
theorem dX11_tree_107 : decode cX11_tree 107 = .ok (.aload_n 0, 1) := by decide +kernel
theorem dX11_tree_108 : decode cX11_tree 108 = .ok (.iload_n 2, 1) := by decide +kernel
theorem dX11_tree_109 : decode cX11_tree 109 = .ok (.iload_n 3, 1) := by decide +kernel
theorem dX11_tree_110 : decode cX11_tree 110 = .ok (.invokevirtual 276, 3) := by decide +kernel
theorem dX11_tree_113 : decode cX11_tree 113 = .ok (.lcmp, 1) := by decide +kernel
theorem dX11_tree_114 : decode cX11_tree 114 = .ok (.ifCond .lt 6, 3) := by decide +kernel
theorem dX11_tree_117 : decode cX11_tree 117 = .ok (.goto 9, 3) := by decide +kernel
theorem dX11_tree_120 : decode cX11_tree 120 = .ok (.iload 4, 2) := by decide +kernel
theorem dX11_tree_122 : decode cX11_tree 122 = .ok (.istore_n 2, 1) := by decide +kernel
theorem dX11_tree_123 : decode cX11_tree 123 = .ok (.iload 5, 2) := by decide +kernel
theorem dX11_tree_125 : decode cX11_tree 125 = .ok (.istore_n 3, 1) := by decide +kernel
theorem dX11_tree_126 : decode cX11_tree 126 = .ok (.iinc 5 1, 3) := by decide +kernel
theorem dX11_tree_129 : decode cX11_tree 129 = .ok (.goto (-77), 3) := by decide +kernel
theorem dX11_tree_132 : decode cX11_tree 132 = .ok (.iinc 4 1, 3) := by decide +kernel
theorem dX11_tree_135 : decode cX11_tree 135 = .ok (.goto (-96), 3) := by decide +kernel
theorem dX11_tree_138 : decode cX11_tree 138 = .ok (.iload_n 2, 1) := by decide +kernel
theorem dX11_tree_139 : decode cX11_tree 139 = .ok (.iconst (-1), 1) := by decide +kernel
theorem dX11_tree_140 : decode cX11_tree 140 = .ok (.if_icmp .eq 7, 3) := by decide +kernel
theorem dX11_tree_143 : decode cX11_tree 143 = .ok (.iconst 1, 1) := by decide +kernel
theorem dX11_tree_144 : decode cX11_tree 144 = .ok (.goto 4, 3) := by decide +kernel
theorem dX11_tree_147 : decode cX11_tree 147 = .ok (.iconst 0, 1) := by decide +kernel
theorem dX11_tree_148 : decode cX11_tree 148 = .ok (.istore_n 1, 1) := by decide +kernel
theorem dX11_tree_149 : decode cX11_tree 149 = .ok (.iload_n 1, 1) := by decide +kernel
theorem dX11_tree_150 : decode cX11_tree 150 = .ok (.ifCond .ne 6, 3) := by decide +kernel
theorem dX11_tree_153 : decode cX11_tree 153 = .ok (.goto (-125), 3) := by decide +kernel
theorem dX11_tree_156 : decode cX11_tree 156 = .ok (.aload_n 0, 1) := by decide +kernel
theorem dX11_tree_157 : decode cX11_tree 157 = .ok (.getfield 91, 3) := by decide +kernel
theorem dX11_tree_160 : decode cX11_tree 160 = .ok (.aload_n 0, 1) := by decide +kernel
theorem dX11_tree_161 : decode cX11_tree 161 = .ok (.getfield 331, 3) := by decide +kernel
theorem dX11_tree_164 : decode cX11_tree 164 = .ok (.iload_n 2, 1) := by decide +kernel
theorem dX11_tree_165 : decode cX11_tree 165 = .ok (.iastore, 1) := by decide +kernel
theorem dX11_tree_166 : decode cX11_tree 166 = .ok (.aload_n 0, 1) := by decide +kernel
theorem dX11_tree_167 : decode cX11_tree 167 = .ok (.getfield 94, 3) := by decide +kernel
theorem dX11_tree_170 : decode cX11_tree 170 = .ok (.aload_n 0, 1) := by decide +kernel
theorem dX11_tree_171 : decode cX11_tree 171 = .ok (.getfield 331, 3) := by decide +kernel
theorem dX11_tree_174 : decode cX11_tree 174 = .ok (.iload_n 3, 1) := by decide +kernel
theorem dX11_tree_175 : decode cX11_tree 175 = .ok (.iastore, 1) := by decide +kernel
theorem dX11_tree_176 : decode cX11_tree 176 = .ok (.aload_n 0, 1) := by decide +kernel
theorem dX11_tree_177 : decode cX11_tree 177 = .ok (.dup, 1) := by decide +kernel
theorem dX11_tree_178 : decode cX11_tree 178 = .ok (.getfield 331, 3) := by decide +kernel
theorem dX11_tree_181 : decode cX11_tree 181 = .ok (.iconst 1, 1) := by decide +kernel
theorem dX11_tree_182 : decode cX11_tree 182 = .ok (.iadd, 1) := by decide +kernel
theorem dX11_tree_183 : decode cX11_tree 183 = .ok (.putfield 331, 3) := by decide +kernel
theorem dX11_tree_186 : decode cX11_tree 186 = .ok (.aload_n 0, 1) := by decide +kernel
theorem dX11_tree_187 : decode cX11_tree 187 = .ok (.getfield 97, 3) := by decide +kernel
theorem dX11_tree_190 : decode cX11_tree 190 = .ok (.iload_n 3, 1) := by decide +kernel
theorem dX11_tree_191 : decode cX11_tree 191 = .ok (.iaload, 1) := by decide +kernel
theorem dX11_tree_192 : decode cX11_tree 192 = .ok (.istore 4, 2) := by decide +kernel
theorem dX11_tree_194 : decode cX11_tree 194 = .ok (.iconst 0, 1) := by decide +kernel
theorem dX11_tree_195 : decode cX11_tree 195 = .ok (.istore 5, 2) := by decide +kernel
theorem dX11_tree_197 : decode cX11_tree 197 = .ok (.iload 5, 2) := by decide +kernel
theorem dX11_tree_199 : decode cX11_tree 199 = .ok (.bipush 24, 2) := by decide +kernel
theorem dX11_tree_201 : decode cX11_tree 201 = .ok (.if_icmp .ge 34, 3) := by decide +kernel
theorem dX11_tree_204 : decode cX11_tree 204 = .ok (.aload_n 0, 1) := by decide +kernel
theorem dX11_tree_205 : decode cX11_tree 205 = .ok (.getfield 97, 3) := by decide +kernel
theorem dX11_tree_208 : decode cX11_tree 208 = .ok (.iload 5, 2) := by decide +kernel
theorem dX11_tree_210 : decode cX11_tree 210 = .ok (.iaload, 1) := by decide +kernel
theorem dX11_tree_211 : decode cX11_tree 211 = .ok (.iload 4, 2) := by decide +kernel
theorem dX11_tree_213 : decode cX11_tree 213 = .ok (.if_icmp .ne 16, 3) := by decide +kernel
theorem dX11_tree_216 : decode cX11_tree 216 = .ok (.aload_n 0, 1) := by decide +kernel
theorem dX11_tree_217 : decode cX11_tree 217 = .ok (.getfield 97, 3) := by decide +kernel
theorem dX11_tree_220 : decode cX11_tree 220 = .ok (.iload 5, 2) := by decide +kernel
theorem dX11_tree_222 : decode cX11_tree 222 = .ok (.aload_n 0, 1) := by decide +kernel
theorem dX11_tree_223 : decode cX11_tree 223 = .ok (.getfield 97, 3) := by decide +kernel
theorem dX11_tree_226 : decode cX11_tree 226 = .ok (.iload_n 2, 1) := by decide +kernel
theorem dX11_tree_227 : decode cX11_tree 227 = .ok (.iaload, 1) := by decide +kernel
theorem dX11_tree_228 : decode cX11_tree 228 = .ok (.iastore, 1) := by decide +kernel
theorem dX11_tree_229 : decode cX11_tree 229 = .ok (.iinc 5 1, 3) := by decide +kernel
theorem dX11_tree_232 : decode cX11_tree 232 = .ok (.goto (-35), 3) := by decide +kernel
theorem dX11_tree_235 : decode cX11_tree 235 = .ok (.goto (-207), 3) := by decide +kernel
theorem dX11_tree_238 : decode cX11_tree 238 = .ok (.aload_n 0, 1) := by decide +kernel
theorem dX11_tree_239 : decode cX11_tree 239 = .ok (.getfield 331, 3) := by decide +kernel
theorem dX11_tree_242 : decode cX11_tree 242 = .ok (.ireturn, 1) := by decide +kernel
theorem dX11_pipe_0 : decode cX11_pipe 0 = .ok (.aload_n 0, 1) := by decide +kernel
theorem dX11_pipe_1 : decode cX11_pipe 1 = .ok (.invokevirtual 334, 3) := by decide +kernel
theorem dX11_pipe_4 : decode cX11_pipe 4 = .ok (.iload_n 1, 1) := by decide +kernel
theorem dX11_pipe_5 : decode cX11_pipe 5 = .ok (.if_icmp .le 7, 3) := by decide +kernel
theorem dX11_pipe_8 : decode cX11_pipe 8 = .ok (.iload_n 1, 1) := by decide +kernel
theorem dX11_pipe_9 : decode cX11_pipe 9 = .ok (.ifCond .ge 5, 3) := by decide +kernel
theorem dX11_pipe_12 : decode cX11_pipe 12 = .ok (.iconst (-1), 1) := by decide +kernel
theorem dX11_pipe_13 : decode cX11_pipe 13 = .ok (.ireturn, 1) := by decide +kernel
theorem dX11_pipe_14 : decode cX11_pipe 14 = .ok (.iload_n 2, 1) := by decide +kernel
theorem dX11_pipe_15 : decode cX11_pipe 15 = .ok (.ifCond .ne 12, 3) := by decide +kernel
theorem dX11_pipe_18 : decode cX11_pipe 18 = .ok (.aload_n 0, 1) := by decide +kernel
theorem dX11_pipe_19 : decode cX11_pipe 19 = .ok (.getfield 91, 3) := by decide +kernel
theorem dX11_pipe_22 : decode cX11_pipe 22 = .ok (.iload_n 1, 1) := by decide +kernel
theorem dX11_pipe_23 : decode cX11_pipe 23 = .ok (.iaload, 1) := by decide +kernel
theorem dX11_pipe_24 : decode cX11_pipe 24 = .ok (.goto 43, 3) := by decide +kernel
theorem dX11_pipe_27 : decode cX11_pipe 27 = .ok (.iload_n 2, 1) := by decide +kernel
theorem dX11_pipe_28 : decode cX11_pipe 28 = .ok (.iconst 1, 1) := by decide +kernel
theorem dX11_pipe_29 : decode cX11_pipe 29 = .ok (.if_icmp .ne 12, 3) := by decide +kernel
theorem dX11_pipe_32 : decode cX11_pipe 32 = .ok (.aload_n 0, 1) := by decide +kernel
theorem dX11_pipe_33 : decode cX11_pipe 33 = .ok (.getfield 94, 3) := by decide +kernel
theorem dX11_pipe_36 : decode cX11_pipe 36 = .ok (.iload_n 1, 1) := by decide +kernel
theorem dX11_pipe_37 : decode cX11_pipe 37 = .ok (.iaload, 1) := by decide +kernel
theorem dX11_pipe_38 : decode cX11_pipe 38 = .ok (.goto 29, 3) := by decide +kernel
theorem dX11_pipe_41 : decode cX11_pipe 41 = .ok (.iload_n 2, 1) := by decide +kernel
theorem dX11_pipe_42 : decode cX11_pipe 42 = .ok (.iconst 2, 1) := by decide +kernel
theorem dX11_pipe_43 : decode cX11_pipe 43 = .ok (.if_icmp .ne 23, 3) := by decide +kernel
theorem dX11_pipe_46 : decode cX11_pipe 46 = .ok (.aload_n 0, 1) := by decide +kernel
theorem dX11_pipe_47 : decode cX11_pipe 47 = .ok (.aload_n 0, 1) := by decide +kernel
theorem dX11_pipe_48 : decode cX11_pipe 48 = .ok (.getfield 91, 3) := by decide +kernel
theorem dX11_pipe_51 : decode cX11_pipe 51 = .ok (.iload_n 1, 1) := by decide +kernel
theorem dX11_pipe_52 : decode cX11_pipe 52 = .ok (.iaload, 1) := by decide +kernel
theorem dX11_pipe_53 : decode cX11_pipe 53 = .ok (.aload_n 0, 1) := by decide +kernel
theorem dX11_pipe_54 : decode cX11_pipe 54 = .ok (.getfield 94, 3) := by decide +kernel
theorem dX11_pipe_57 : decode cX11_pipe 57 = .ok (.iload_n 1, 1) := by decide +kernel
theorem dX11_pipe_58 : decode cX11_pipe 58 = .ok (.iaload, 1) := by decide +kernel
theorem dX11_pipe_59 : decode cX11_pipe 59 = .ok (.invokevirtual 276, 3) := by decide +kernel
theorem dX11_pipe_62 : decode cX11_pipe 62 = .ok (.l2i, 1) := by decide +kernel
theorem dX11_pipe_63 : decode cX11_pipe 63 = .ok (.goto 4, 3) := by decide +kernel
theorem dX11_pipe_66 : decode cX11_pipe 66 = .ok (.iconst (-1), 1) := by decide +kernel
theorem dX11_pipe_67 : decode cX11_pipe 67 = .ok (.ireturn, 1) := by decide +kernel
theorem dX11_hull_0 : decode cX11_hull 0 = .ok (.aload_n 0, 1) := by decide +kernel
theorem dX11_hull_1 : decode cX11_hull 1 = .ok (.iconst 0, 1) := by decide +kernel
theorem dX11_hull_2 : decode cX11_hull 2 = .ok (.putfield 338, 3) := by decide +kernel
theorem dX11_hull_5 : decode cX11_hull 5 = .ok (.iconst (-1), 1) := by decide +kernel
theorem dX11_hull_6 : decode cX11_hull 6 = .ok (.istore_n 1, 1) := by decide +kernel
theorem dX11_hull_7 : decode cX11_hull 7 = .ok (.iconst 0, 1) := by decide +kernel
theorem dX11_hull_8 : decode cX11_hull 8 = .ok (.istore_n 2, 1) := by decide +kernel
theorem dX11_hull_9 : decode cX11_hull 9 = .ok (.iload_n 2, 1) := by decide +kernel
theorem dX11_hull_10 : decode cX11_hull 10 = .ok (.bipush 24, 2) := by decide +kernel
theorem dX11_hull_12 : decode cX11_hull 12 = .ok (.if_icmp .ge 72, 3) := by decide +kernel
theorem dX11_hull_15 : decode cX11_hull 15 = .ok (.aload_n 0, 1) := by decide +kernel
theorem dX11_hull_16 : decode cX11_hull 16 = .ok (.iload_n 2, 1) := by decide +kernel
theorem dX11_hull_17 : decode cX11_hull 17 = .ok (.invokevirtual 148, 3) := by decide +kernel
theorem dX11_hull_20 : decode cX11_hull 20 = .ok (.ifCond .ne 6, 3) := by decide +kernel
theorem dX11_hull_23 : decode cX11_hull 23 = .ok (.goto 55, 3) := by decide +kernel
theorem dX11_hull_26 : decode cX11_hull 26 = .ok (.iload_n 1, 1) := by decide +kernel
theorem dX11_hull_27 : decode cX11_hull 27 = .ok (.iconst (-1), 1) := by decide +kernel
theorem dX11_hull_28 : decode cX11_hull 28 = .ok (.if_icmp .eq 48, 3) := by decide +kernel
theorem dX11_hull_31 : decode cX11_hull 31 = .ok (.aload_n 0, 1) := by decide +kernel
theorem dX11_hull_32 : decode cX11_hull 32 = .ok (.getfield 20, 3) := by decide +kernel
theorem dX11_hull_35 : decode cX11_hull 35 = .ok (.iload_n 2, 1) := by decide +kernel
theorem dX11_hull_36 : decode cX11_hull 36 = .ok (.iaload, 1) := by decide +kernel
theorem dX11_hull_37 : decode cX11_hull 37 = .ok (.aload_n 0, 1) := by decide +kernel
theorem dX11_hull_38 : decode cX11_hull 38 = .ok (.getfield 20, 3) := by decide +kernel
theorem dX11_hull_41 : decode cX11_hull 41 = .ok (.iload_n 1, 1) := by decide +kernel
theorem dX11_hull_42 : decode cX11_hull 42 = .ok (.iaload, 1) := by decide +kernel
theorem dX11_hull_43 : decode cX11_hull 43 = .ok (.if_icmp .lt 33, 3) := by decide +kernel
theorem dX11_hull_46 : decode cX11_hull 46 = .ok (.aload_n 0, 1) := by decide +kernel
theorem dX11_hull_47 : decode cX11_hull 47 = .ok (.getfield 20, 3) := by decide +kernel
theorem dX11_hull_50 : decode cX11_hull 50 = .ok (.iload_n 2, 1) := by decide +kernel
theorem dX11_hull_51 : decode cX11_hull 51 = .ok (.iaload, 1) := by decide +kernel
theorem dX11_hull_52 : decode cX11_hull 52 = .ok (.aload_n 0, 1) := by decide +kernel
theorem dX11_hull_53 : decode cX11_hull 53 = .ok (.getfield 20, 3) := by decide +kernel
theorem dX11_hull_56 : decode cX11_hull 56 = .ok (.iload_n 1, 1) := by decide +kernel
theorem dX11_hull_57 : decode cX11_hull 57 = .ok (.iaload, 1) := by decide +kernel
theorem dX11_hull_58 : decode cX11_hull 58 = .ok (.if_icmp .ne 20, 3) := by decide +kernel
theorem dX11_hull_61 : decode cX11_hull 61 = .ok (.aload_n 0, 1) := by decide +kernel
theorem dX11_hull_62 : decode cX11_hull 62 = .ok (.getfield 24, 3) := by decide +kernel
theorem dX11_hull_65 : decode cX11_hull 65 = .ok (.iload_n 2, 1) := by decide +kernel
theorem dX11_hull_66 : decode cX11_hull 66 = .ok (.iaload, 1) := by decide +kernel
theorem dX11_hull_67 : decode cX11_hull 67 = .ok (.aload_n 0, 1) := by decide +kernel
theorem dX11_hull_68 : decode cX11_hull 68 = .ok (.getfield 24, 3) := by decide +kernel
theorem dX11_hull_71 : decode cX11_hull 71 = .ok (.iload_n 1, 1) := by decide +kernel
theorem dX11_hull_72 : decode cX11_hull 72 = .ok (.iaload, 1) := by decide +kernel
theorem dX11_hull_73 : decode cX11_hull 73 = .ok (.if_icmp .ge 5, 3) := by decide +kernel
theorem dX11_hull_76 : decode cX11_hull 76 = .ok (.iload_n 2, 1) := by decide +kernel
theorem dX11_hull_77 : decode cX11_hull 77 = .ok (.istore_n 1, 1) := by decide +kernel
theorem dX11_hull_78 : decode cX11_hull 78 = .ok (.iinc 2 1, 3) := by decide +kernel
theorem dX11_hull_81 : decode cX11_hull 81 = .ok (.goto (-72), 3) := by decide +kernel
