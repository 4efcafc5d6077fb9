theorem dX11_brings_81 : decode cX11_brings 81 = .ok (.aload_n 0, 1) := by decide +kernel
theorem dX11_brings_82 : decode cX11_brings 82 = .ok (.getfield 45, 3) := by decide +kernel
theorem dX11_brings_85 : decode cX11_brings 85 = .ok (.iload_n 2, 1) := by decide +kernel
theorem dX11_brings_86 : decode cX11_brings 86 = .ok (.iaload, 1) := by decide +kernel
theorem dX11_brings_87 : decode cX11_brings 87 = .ok (.iastore, 1) := by decide +kernel
theorem dX11_brings_88 : decode cX11_brings 88 = .ok (.iinc 1 1, 3) := by decide +kernel
theorem dX11_brings_91 : decode cX11_brings 91 = .ok (.goto (-79), 3) := by decide +kernel
theorem dX11_brings_94 : decode cX11_brings 94 = .ok (.aload_n 0, 1) := by decide +kernel
theorem dX11_brings_95 : decode cX11_brings 95 = .ok (.aload_n 0, 1) := by decide +kernel
theorem dX11_brings_96 : decode cX11_brings 96 = .ok (.getfield 48, 3) := by decide +kernel
theorem dX11_brings_99 : decode cX11_brings 99 = .ok (.aload_n 0, 1) := by decide +kernel
theorem dX11_brings_100 : decode cX11_brings 100 = .ok (.getfield 118, 3) := by decide +kernel
theorem dX11_brings_103 : decode cX11_brings 103 = .ok (.iaload, 1) := by decide +kernel
theorem dX11_brings_104 : decode cX11_brings 104 = .ok (.putfield 7, 3) := by decide +kernel
theorem dX11_brings_107 : decode cX11_brings 107 = .ok (.aload_n 0, 1) := by decide +kernel
theorem dX11_brings_108 : decode cX11_brings 108 = .ok (.aload_n 0, 1) := by decide +kernel
theorem dX11_brings_109 : decode cX11_brings 109 = .ok (.getfield 51, 3) := by decide +kernel
theorem dX11_brings_112 : decode cX11_brings 112 = .ok (.aload_n 0, 1) := by decide +kernel
theorem dX11_brings_113 : decode cX11_brings 113 = .ok (.getfield 118, 3) := by decide +kernel
theorem dX11_brings_116 : decode cX11_brings 116 = .ok (.iaload, 1) := by decide +kernel
theorem dX11_brings_117 : decode cX11_brings 117 = .ok (.putfield 13, 3) := by decide +kernel
theorem dX11_brings_120 : decode cX11_brings 120 = .ok (.return_, 1) := by decide +kernel
theorem dX11_undo_0 : decode cX11_undo 0 = .ok (.aload_n 0, 1) := by decide +kernel
theorem dX11_undo_1 : decode cX11_undo 1 = .ok (.getfield 118, 3) := by decide +kernel
theorem dX11_undo_4 : decode cX11_undo 4 = .ok (.ifCond .ne 5, 3) := by decide +kernel
theorem dX11_undo_7 : decode cX11_undo 7 = .ok (.iconst (-1), 1) := by decide +kernel
theorem dX11_undo_8 : decode cX11_undo 8 = .ok (.ireturn, 1) := by decide +kernel
theorem dX11_undo_9 : decode cX11_undo 9 = .ok (.aload_n 0, 1) := by decide +kernel
theorem dX11_undo_10 : decode cX11_undo 10 = .ok (.invokevirtual 121, 3) := by decide +kernel
theorem dX11_undo_13 : decode cX11_undo 13 = .ok (.aload_n 0, 1) := by decide +kernel
theorem dX11_undo_14 : decode cX11_undo 14 = .ok (.getfield 118, 3) := by decide +kernel
theorem dX11_undo_17 : decode cX11_undo 17 = .ok (.ireturn, 1) := by decide +kernel
theorem dX11_isWell_0 : decode cX11_isWell 0 = .ok (.iload_n 1, 1) := by decide +kernel
theorem dX11_isWell_1 : decode cX11_isWell 1 = .ok (.ifCond .lt 22, 3) := by decide +kernel
theorem dX11_isWell_4 : decode cX11_isWell 4 = .ok (.iload_n 1, 1) := by decide +kernel
theorem dX11_isWell_5 : decode cX11_isWell 5 = .ok (.bipush 24, 2) := by decide +kernel
theorem dX11_isWell_7 : decode cX11_isWell 7 = .ok (.if_icmp .ge 16, 3) := by decide +kernel
theorem dX11_isWell_10 : decode cX11_isWell 10 = .ok (.aload_n 0, 1) := by decide +kernel
theorem dX11_isWell_11 : decode cX11_isWell 11 = .ok (.getfield 16, 3) := by decide +kernel
theorem dX11_isWell_14 : decode cX11_isWell 14 = .ok (.iload_n 1, 1) := by decide +kernel
theorem dX11_isWell_15 : decode cX11_isWell 15 = .ok (.baload, 1) := by decide +kernel
theorem dX11_isWell_16 : decode cX11_isWell 16 = .ok (.ifCond .eq 7, 3) := by decide +kernel
theorem dX11_isWell_19 : decode cX11_isWell 19 = .ok (.iconst 1, 1) := by decide +kernel
theorem dX11_isWell_20 : decode cX11_isWell 20 = .ok (.goto 4, 3) := by decide +kernel
theorem dX11_isWell_23 : decode cX11_isWell 23 = .ok (.iconst 0, 1) := by decide +kernel
theorem dX11_isWell_24 : decode cX11_isWell 24 = .ok (.ireturn, 1) := by decide +kernel
theorem dX11_counts_0 : decode cX11_counts 0 = .ok (.aload_n 0, 1) := by decide +kernel
theorem dX11_counts_1 : decode cX11_counts 1 = .ok (.iload_n 1, 1) := by decide +kernel
theorem dX11_counts_2 : decode cX11_counts 2 = .ok (.invokevirtual 124, 3) := by decide +kernel
theorem dX11_counts_5 : decode cX11_counts 5 = .ok (.ifCond .eq 44, 3) := by decide +kernel
theorem dX11_counts_8 : decode cX11_counts 8 = .ok (.aload_n 0, 1) := by decide +kernel
theorem dX11_counts_9 : decode cX11_counts 9 = .ok (.getfield 27, 3) := by decide +kernel
theorem dX11_counts_12 : decode cX11_counts 12 = .ok (.iload_n 1, 1) := by decide +kernel
theorem dX11_counts_13 : decode cX11_counts 13 = .ok (.iaload, 1) := by decide +kernel
theorem dX11_counts_14 : decode cX11_counts 14 = .ok (.iconst 3, 1) := by decide +kernel
theorem dX11_counts_15 : decode cX11_counts 15 = .ok (.if_icmp .eq 34, 3) := by decide +kernel
theorem dX11_counts_18 : decode cX11_counts 18 = .ok (.aload_n 0, 1) := by decide +kernel
theorem dX11_counts_19 : decode cX11_counts 19 = .ok (.getfield 27, 3) := by decide +kernel
theorem dX11_counts_22 : decode cX11_counts 22 = .ok (.iload_n 1, 1) := by decide +kernel
theorem dX11_counts_23 : decode cX11_counts 23 = .ok (.iaload, 1) := by decide +kernel
theorem dX11_counts_24 : decode cX11_counts 24 = .ok (.iconst 4, 1) := by decide +kernel
theorem dX11_counts_25 : decode cX11_counts 25 = .ok (.if_icmp .ne 20, 3) := by decide +kernel
theorem dX11_counts_28 : decode cX11_counts 28 = .ok (.aload_n 0, 1) := by decide +kernel
theorem dX11_counts_29 : decode cX11_counts 29 = .ok (.getfield 30, 3) := by decide +kernel
theorem dX11_counts_32 : decode cX11_counts 32 = .ok (.iload_n 1, 1) := by decide +kernel
theorem dX11_counts_33 : decode cX11_counts 33 = .ok (.iaload, 1) := by decide +kernel
theorem dX11_counts_34 : decode cX11_counts 34 = .ok (.aload_n 0, 1) := by decide +kernel
theorem dX11_counts_35 : decode cX11_counts 35 = .ok (.getfield 128, 3) := by decide +kernel
theorem dX11_counts_38 : decode cX11_counts 38 = .ok (.ishr, 1) := by decide +kernel
theorem dX11_counts_39 : decode cX11_counts 39 = .ok (.iconst 1, 1) := by decide +kernel
theorem dX11_counts_40 : decode cX11_counts 40 = .ok (.iand, 1) := by decide +kernel
theorem dX11_counts_41 : decode cX11_counts 41 = .ok (.iconst 1, 1) := by decide +kernel
theorem dX11_counts_42 : decode cX11_counts 42 = .ok (.if_icmp .ne 7, 3) := by decide +kernel
theorem dX11_counts_45 : decode cX11_counts 45 = .ok (.iconst 1, 1) := by decide +kernel
theorem dX11_counts_46 : decode cX11_counts 46 = .ok (.goto 4, 3) := by decide +kernel
theorem dX11_counts_49 : decode cX11_counts 49 = .ok (.iconst 0, 1) := by decide +kernel
theorem dX11_counts_50 : decode cX11_counts 50 = .ok (.ireturn, 1) := by decide +kernel
theorem dX11_off_0 : decode cX11_off 0 = .ok (.aload_n 0, 1) := by decide +kernel
theorem dX11_off_1 : decode cX11_off 1 = .ok (.getfield 27, 3) := by decide +kernel
theorem dX11_off_4 : decode cX11_off 4 = .ok (.iload_n 1, 1) := by decide +kernel
theorem dX11_off_5 : decode cX11_off 5 = .ok (.iaload, 1) := by decide +kernel
theorem dX11_off_6 : decode cX11_off 6 = .ok (.iconst 1, 1) := by decide +kernel
theorem dX11_off_7 : decode cX11_off 7 = .ok (.if_icmp .ne 13, 3) := by decide +kernel
theorem dX11_off_10 : decode cX11_off 10 = .ok (.aload_n 0, 1) := by decide +kernel
theorem dX11_off_11 : decode cX11_off 11 = .ok (.getfield 30, 3) := by decide +kernel
theorem dX11_off_14 : decode cX11_off 14 = .ok (.iload_n 1, 1) := by decide +kernel
theorem dX11_off_15 : decode cX11_off 15 = .ok (.iaload, 1) := by decide +kernel
theorem dX11_off_16 : decode cX11_off 16 = .ok (.i2l, 1) := by decide +kernel
theorem dX11_off_17 : decode cX11_off 17 = .ok (.goto 4, 3) := by decide +kernel
theorem dX11_off_20 : decode cX11_off 20 = .ok (.lconst 0, 1) := by decide +kernel
theorem dX11_off_21 : decode cX11_off 21 = .ok (.lreturn, 1) := by decide +kernel
theorem dX11_rectangle_0 : decode cX11_rectangle 0 = .ok (.iload_n 1, 1) := by decide +kernel
theorem dX11_rectangle_1 : decode cX11_rectangle 1 = .ok (.iconst 1, 1) := by decide +kernel
theorem dX11_rectangle_2 : decode cX11_rectangle 2 = .ok (.if_icmp .lt 22, 3) := by decide +kernel
theorem dX11_rectangle_5 : decode cX11_rectangle 5 = .ok (.iload_n 1, 1) := by decide +kernel
theorem dX11_rectangle_6 : decode cX11_rectangle 6 = .ok (.sipush 1000, 3) := by decide +kernel
theorem dX11_rectangle_9 : decode cX11_rectangle 9 = .ok (.if_icmp .gt 15, 3) := by decide +kernel
theorem dX11_rectangle_12 : decode cX11_rectangle 12 = .ok (.iload_n 2, 1) := by decide +kernel
theorem dX11_rectangle_13 : decode cX11_rectangle 13 = .ok (.iconst 1, 1) := by decide +kernel
theorem dX11_rectangle_14 : decode cX11_rectangle 14 = .ok (.if_icmp .lt 10, 3) := by decide +kernel
theorem dX11_rectangle_17 : decode cX11_rectangle 17 = .ok (.iload_n 2, 1) := by decide +kernel
theorem dX11_rectangle_18 : decode cX11_rectangle 18 = .ok (.sipush 1000, 3) := by decide +kernel
theorem dX11_rectangle_21 : decode cX11_rectangle 21 = .ok (.if_icmp .le 5, 3) := by decide +kernel
theorem dX11_rectangle_24 : decode cX11_rectangle 24 = .ok (.iconst 0, 1) := by decide +kernel
theorem dX11_rectangle_25 : decode cX11_rectangle 25 = .ok (.ireturn, 1) := by decide +kernel
theorem dX11_rectangle_26 : decode cX11_rectangle 26 = .ok (.iconst 0, 1) := by decide +kernel
theorem dX11_rectangle_27 : decode cX11_rectangle 27 = .ok (.istore_n 3, 1) := by decide +kernel
theorem dX11_rectangle_28 : decode cX11_rectangle 28 = .ok (.iload_n 3, 1) := by decide +kernel
theorem dX11_rectangle_29 : decode cX11_rectangle 29 = .ok (.bipush 24, 2) := by decide +kernel
theorem dX11_rectangle_31 : decode cX11_rectangle 31 = .ok (.if_icmp .ge 40, 3) := by decide +kernel
theorem dX11_rectangle_34 : decode cX11_rectangle 34 = .ok (.aload_n 0, 1) := by decide +kernel
theorem dX11_rectangle_35 : decode cX11_rectangle 35 = .ok (.getfield 16, 3) := by decide +kernel
theorem dX11_rectangle_38 : decode cX11_rectangle 38 = .ok (.iload_n 3, 1) := by decide +kernel
theorem dX11_rectangle_39 : decode cX11_rectangle 39 = .ok (.baload, 1) := by decide +kernel
theorem dX11_rectangle_40 : decode cX11_rectangle 40 = .ok (.ifCond .eq 25, 3) := by decide +kernel
theorem dX11_rectangle_43 : decode cX11_rectangle 43 = .ok (.aload_n 0, 1) := by decide +kernel
theorem dX11_rectangle_44 : decode cX11_rectangle 44 = .ok (.getfield 20, 3) := by decide +kernel
theorem dX11_rectangle_47 : decode cX11_rectangle 47 = .ok (.iload_n 3, 1) := by decide +kernel
theorem dX11_rectangle_48 : decode cX11_rectangle 48 = .ok (.iaload, 1) := by decide +kernel
theorem dX11_rectangle_49 : decode cX11_rectangle 49 = .ok (.iload_n 1, 1) := by decide +kernel
theorem dX11_rectangle_50 : decode cX11_rectangle 50 = .ok (.if_icmp .gt 13, 3) := by decide +kernel
theorem dX11_rectangle_53 : decode cX11_rectangle 53 = .ok (.aload_n 0, 1) := by decide +kernel
theorem dX11_rectangle_54 : decode cX11_rectangle 54 = .ok (.getfield 24, 3) := by decide +kernel
theorem dX11_rectangle_57 : decode cX11_rectangle 57 = .ok (.iload_n 3, 1) := by decide +kernel
theorem dX11_rectangle_58 : decode cX11_rectangle 58 = .ok (.iaload, 1) := by decide +kernel
theorem dX11_rectangle_59 : decode cX11_rectangle 59 = .ok (.iload_n 2, 1) := by decide +kernel
theorem dX11_rectangle_60 : decode cX11_rectangle 60 = .ok (.if_icmp .le 5, 3) := by decide +kernel
theorem dX11_rectangle_63 : decode cX11_rectangle 63 = .ok (.iconst 0, 1) := by decide +kernel
theorem dX11_rectangle_64 : decode cX11_rectangle 64 = .ok (.ireturn, 1) := by decide +kernel
theorem dX11_rectangle_65 : decode cX11_rectangle 65 = .ok (.iinc 3 1, 3) := by decide +kernel
theorem dX11_rectangle_68 : decode cX11_rectangle 68 = .ok (.goto (-40), 3) := by decide +kernel
theorem dX11_rectangle_71 : decode cX11_rectangle 71 = .ok (.aload_n 0, 1) := by decide +kernel
theorem dX11_rectangle_72 : decode cX11_rectangle 72 = .ok (.invokevirtual 131, 3) := by decide +kernel
theorem dX11_rectangle_75 : decode cX11_rectangle 75 = .ok (.aload_n 0, 1) := by decide +kernel
theorem dX11_rectangle_76 : decode cX11_rectangle 76 = .ok (.iload_n 1, 1) := by decide +kernel
theorem dX11_rectangle_77 : decode cX11_rectangle 77 = .ok (.putfield 7, 3) := by decide +kernel
theorem dX11_rectangle_80 : decode cX11_rectangle 80 = .ok (.aload_n 0, 1) := by decide +kernel
theorem dX11_rectangle_81 : decode cX11_rectangle 81 = .ok (.iload_n 2, 1) := by decide +kernel
theorem dX11_rectangle_82 : decode cX11_rectangle 82 = .ok (.putfield 13, 3) := by decide +kernel
theorem dX11_rectangle_85 : decode cX11_rectangle 85 = .ok (.iconst 1, 1) := by decide +kernel
theorem dX11_rectangle_86 : decode cX11_rectangle 86 = .ok (.ireturn, 1) := by decide +kernel
theorem dX11_season_0 : decode cX11_season 0 = .ok (.iload_n 1, 1) := by decide +kernel
theorem dX11_season_1 : decode cX11_season 1 = .ok (.ifCond .lt 8, 3) := by decide +kernel
theorem dX11_season_4 : decode cX11_season 4 = .ok (.iload_n 1, 1) := by decide +kernel
theorem dX11_season_5 : decode cX11_season 5 = .ok (.iconst 3, 1) := by decide +kernel
theorem dX11_season_6 : decode cX11_season 6 = .ok (.if_icmp .le 5, 3) := by decide +kernel
theorem dX11_season_9 : decode cX11_season 9 = .ok (.iconst (-1), 1) := by decide +kernel
theorem dX11_season_10 : decode cX11_season 10 = .ok (.ireturn, 1) := by decide +kernel
theorem dX11_season_11 : decode cX11_season 11 = .ok (.aload_n 0, 1) := by decide +kernel
theorem dX11_season_12 : decode cX11_season 12 = .ok (.getfield 128, 3) := by decide +kernel
theorem dX11_season_15 : decode cX11_season 15 = .ok (.istore_n 2, 1) := by decide +kernel
theorem dX11_season_16 : decode cX11_season 16 = .ok (.aload_n 0, 1) := by decide +kernel
theorem dX11_season_17 : decode cX11_season 17 = .ok (.iload_n 1, 1) := by decide +kernel
theorem dX11_season_18 : decode cX11_season 18 = .ok (.putfield 128, 3) := by decide +kernel
theorem dX11_season_21 : decode cX11_season 21 = .ok (.iload_n 2, 1) := by decide +kernel
theorem dX11_season_22 : decode cX11_season 22 = .ok (.ireturn, 1) := by decide +kernel
theorem dX11_mayBe_0 : decode cX11_mayBe 0 = .ok (.iload_n 0, 1) := by decide +kernel
theorem dX11_mayBe_1 : decode cX11_mayBe 1 = .ok (.tableswitch 94 0 4 #[35, 45, 61, 35, 77], 35) := by decide +kernel
theorem dX11_mayBe_36 : decode cX11_mayBe 36 = .ok (.iload_n 1, 1) := by decide +kernel
theorem dX11_mayBe_37 : decode cX11_mayBe 37 = .ok (.ifCond .ne 7, 3) := by decide +kernel
theorem dX11_mayBe_40 : decode cX11_mayBe 40 = .ok (.iconst 1, 1) := by decide +kernel
theorem dX11_mayBe_41 : decode cX11_mayBe 41 = .ok (.goto 4, 3) := by decide +kernel
theorem dX11_mayBe_44 : decode cX11_mayBe 44 = .ok (.iconst 0, 1) := by decide +kernel
theorem dX11_mayBe_45 : decode cX11_mayBe 45 = .ok (.ireturn, 1) := by decide +kernel
theorem dX11_mayBe_46 : decode cX11_mayBe 46 = .ok (.iload_n 1, 1) := by decide +kernel
theorem dX11_mayBe_47 : decode cX11_mayBe 47 = .ok (.ifCond .lt 13, 3) := by decide +kernel
theorem dX11_mayBe_50 : decode cX11_mayBe 50 = .ok (.iload_n 1, 1) := by decide +kernel
theorem dX11_mayBe_51 : decode cX11_mayBe 51 = .ok (.ldc 134, 2) := by decide +kernel
theorem dX11_mayBe_53 : decode cX11_mayBe 53 = .ok (.if_icmp .gt 7, 3) := by decide +kernel
theorem dX11_mayBe_56 : decode cX11_mayBe 56 = .ok (.iconst 1, 1) := by decide +kernel
theorem dX11_mayBe_57 : decode cX11_mayBe 57 = .ok (.goto 4, 3) := by decide +kernel
theorem dX11_mayBe_60 : decode cX11_mayBe 60 = .ok (.iconst 0, 1) := by decide +kernel
theorem dX11_mayBe_61 : decode cX11_mayBe 61 = .ok (.ireturn, 1) := by decide +kernel
theorem dX11_mayBe_62 : decode cX11_mayBe 62 = .ok (.iload_n 1, 1) := by decide +kernel
theorem dX11_mayBe_63 : decode cX11_mayBe 63 = .ok (.ifCond .lt 13, 3) := by decide +kernel
theorem dX11_mayBe_66 : decode cX11_mayBe 66 = .ok (.iload_n 1, 1) := by decide +kernel
theorem dX11_mayBe_67 : decode cX11_mayBe 67 = .ok (.ldc 135, 2) := by decide +kernel
theorem dX11_mayBe_69 : decode cX11_mayBe 69 = .ok (.if_icmp .gt 7, 3) := by decide +kernel
theorem dX11_mayBe_72 : decode cX11_mayBe 72 = .ok (.iconst 1, 1) := by decide +kernel
theorem dX11_mayBe_73 : decode cX11_mayBe 73 = .ok (.goto 4, 3) := by decide +kernel
theorem dX11_mayBe_76 : decode cX11_mayBe 76 = .ok (.iconst 0, 1) := by decide +kernel
theorem dX11_mayBe_77 : decode cX11_mayBe 77 = .ok (.ireturn, 1) := by decide +kernel
theorem dX11_mayBe_78 : decode cX11_mayBe 78 = .ok (.iload_n 1, 1) := by decide +kernel
theorem dX11_mayBe_79 : decode cX11_mayBe 79 = .ok (.iconst 1, 1) := by decide +kernel
theorem dX11_mayBe_80 : decode cX11_mayBe 80 = .ok (.if_icmp .lt 13, 3) := by decide +kernel
theorem dX11_mayBe_83 : decode cX11_mayBe 83 = .ok (.iload_n 1, 1) := by decide +kernel
theorem dX11_mayBe_84 : decode cX11_mayBe 84 = .ok (.bipush 15, 2) := by decide +kernel
theorem dX11_mayBe_86 : decode cX11_mayBe 86 = .ok (.if_icmp .gt 7, 3) := by decide +kernel
theorem dX11_mayBe_89 : decode cX11_mayBe 89 = .ok (.iconst 1, 1) := by decide +kernel
theorem dX11_mayBe_90 : decode cX11_mayBe 90 = .ok (.goto 4, 3) := by decide +kernel
theorem dX11_mayBe_93 : decode cX11_mayBe 93 = .ok (.iconst 0, 1) := by decide +kernel
theorem dX11_mayBe_94 : decode cX11_mayBe 94 = .ok (.ireturn, 1) := by decide +kernel
theorem dX11_mayBe_95 : decode cX11_mayBe 95 = .ok (.iconst 0, 1) := by decide +kernel
theorem dX11_mayBe_96 : decode cX11_mayBe 96 = .ok (.ireturn, 1) := by decide +kernel
theorem dX11_sinks_0 : decode cX11_sinks 0 = .ok (.iload_n 1, 1) := by decide +kernel
theorem dX11_sinks_1 : decode cX11_sinks 1 = .ok (.ifCond .lt 32, 3) := by decide +kernel
theorem dX11_sinks_4 : decode cX11_sinks 4 = .ok (.iload_n 1, 1) := by decide +kernel
theorem dX11_sinks_5 : decode cX11_sinks 5 = .ok (.aload_n 0, 1) := by decide +kernel
theorem dX11_sinks_6 : decode cX11_sinks 6 = .ok (.getfield 7, 3) := by decide +kernel
theorem dX11_sinks_9 : decode cX11_sinks 9 = .ok (.if_icmp .gt 24, 3) := by decide +kernel
theorem dX11_sinks_12 : decode cX11_sinks 12 = .ok (.iload_n 2, 1) := by decide +kernel
theorem dX11_sinks_13 : decode cX11_sinks 13 = .ok (.ifCond .lt 20, 3) := by decide +kernel
theorem dX11_sinks_16 : decode cX11_sinks 16 = .ok (.iload_n 2, 1) := by decide +kernel
theorem dX11_sinks_17 : decode cX11_sinks 17 = .ok (.aload_n 0, 1) := by decide +kernel
theorem dX11_sinks_18 : decode cX11_sinks 18 = .ok (.getfield 13, 3) := by decide +kernel
theorem dX11_sinks_21 : decode cX11_sinks 21 = .ok (.if_icmp .gt 12, 3) := by decide +kernel
theorem dX11_sinks_24 : decode cX11_sinks 24 = .ok (.iload_n 3, 1) := by decide +kernel
theorem dX11_sinks_25 : decode cX11_sinks 25 = .ok (.iload 4, 2) := by decide +kernel
theorem dX11_sinks_27 : decode cX11_sinks 27 = .ok (.invokestatic 136, 3) := by decide +kernel
theorem dX11_sinks_30 : decode cX11_sinks 30 = .ok (.ifCond .ne 5, 3) := by decide +kernel
theorem dX11_sinks_33 : decode cX11_sinks 33 = .ok (.iconst (-1), 1) := by decide +kernel
theorem dX11_sinks_34 : decode cX11_sinks 34 = .ok (.ireturn, 1) := by decide +kernel
theorem dX11_sinks_35 : decode cX11_sinks 35 = .ok (.iconst 0, 1) := by decide +kernel
theorem dX11_sinks_36 : decode cX11_sinks 36 = .ok (.istore 5, 2) := by decide +kernel
theorem dX11_sinks_38 : decode cX11_sinks 38 = .ok (.iload 5, 2) := by decide +kernel
theorem dX11_sinks_40 : decode cX11_sinks 40 = .ok (.bipush 24, 2) := by decide +kernel
theorem dX11_sinks_42 : decode cX11_sinks 42 = .ok (.if_icmp .ge 44, 3) := by decide +kernel
theorem dX11_sinks_45 : decode cX11_sinks 45 = .ok (.aload_n 0, 1) := by decide +kernel
theorem dX11_sinks_46 : decode cX11_sinks 46 = .ok (.getfield 16, 3) := by decide +kernel
theorem dX11_sinks_49 : decode cX11_sinks 49 = .ok (.iload 5, 2) := by decide +kernel
theorem dX11_sinks_51 : decode cX11_sinks 51 = .ok (.baload, 1) := by decide +kernel
theorem dX11_sinks_52 : decode cX11_sinks 52 = .ok (.ifCond .eq 28, 3) := by decide +kernel
theorem dX11_sinks_55 : decode cX11_sinks 55 = .ok (.aload_n 0, 1) := by decide +kernel
theorem dX11_sinks_56 : decode cX11_sinks 56 = .ok (.getfield 20, 3) := by decide +kernel
theorem dX11_sinks_59 : decode cX11_sinks 59 = .ok (.iload 5, 2) := by decide +kernel
theorem dX11_sinks_61 : decode cX11_sinks 61 = .ok (.iaload, 1) := by decide +kernel
theorem dX11_sinks_62 : decode cX11_sinks 62 = .ok (.iload_n 1, 1) := by decide +kernel
theorem dX11_sinks_63 : decode cX11_sinks 63 = .ok (.if_icmp .ne 17, 3) := by decide +kernel
theorem dX11_sinks_66 : decode cX11_sinks 66 = .ok (.aload_n 0, 1) := by decide +kernel
theorem dX11_sinks_67 : decode cX11_sinks 67 = .ok (.getfield 24, 3) := by decide +kernel
theorem dX11_sinks_70 : decode cX11_sinks 70 = .ok (.iload 5, 2) := by decide +kernel
theorem dX11_sinks_72 : decode cX11_sinks 72 = .ok (.iaload, 1) := by decide +kernel
theorem dX11_sinks_73 : decode cX11_sinks 73 = .ok (.iload_n 2, 1) := by decide +kernel
theorem dX11_sinks_74 : decode cX11_sinks 74 = .ok (.if_icmp .ne 6, 3) := by decide +kernel
theorem dX11_sinks_77 : decode cX11_sinks 77 = .ok (.bipush (-2), 2) := by decide +kernel
theorem dX11_sinks_79 : decode cX11_sinks 79 = .ok (.ireturn, 1) := by decide +kernel
theorem dX11_sinks_80 : decode cX11_sinks 80 = .ok (.iinc 5 1, 3) := by decide +kernel
theorem dX11_sinks_83 : decode cX11_sinks 83 = .ok (.goto (-45), 3) := by decide +kernel
theorem dX11_sinks_86 : decode cX11_sinks 86 = .ok (.iconst 0, 1) := by decide +kernel
theorem dX11_sinks_87 : decode cX11_sinks 87 = .ok (.istore 5, 2) := by decide +kernel
theorem dX11_sinks_89 : decode cX11_sinks 89 = .ok (.iload 5, 2) := by decide +kernel
theorem dX11_sinks_91 : decode cX11_sinks 91 = .ok (.bipush 24, 2) := by decide +kernel
theorem dX11_sinks_93 : decode cX11_sinks 93 = .ok (.if_icmp .ge 19, 3) := by decide +kernel
theorem dX11_sinks_96 : decode cX11_sinks 96 = .ok (.aload_n 0, 1) := by decide +kernel
theorem dX11_sinks_97 : decode cX11_sinks 97 = .ok (.getfield 16, 3) := by decide +kernel
theorem dX11_sinks_100 : decode cX11_sinks 100 = .ok (.iload 5, 2) := by decide +kernel
theorem dX11_sinks_102 : decode cX11_sinks 102 = .ok (.baload, 1) := by decide +kernel
theorem dX11_sinks_103 : decode cX11_sinks 103 = .ok (.ifCond .eq 9, 3) := by decide +kernel
theorem dX11_sinks_106 : decode cX11_sinks 106 = .ok (.iinc 5 1, 3) := by decide +kernel
theorem dX11_sinks_109 : decode cX11_sinks 109 = .ok (.goto (-20), 3) := by decide +kernel
theorem dX11_sinks_112 : decode cX11_sinks 112 = .ok (.iload 5, 2) := by decide +kernel
theorem dX11_sinks_114 : decode cX11_sinks 114 = .ok (.bipush 24, 2) := by decide +kernel
theorem dX11_sinks_116 : decode cX11_sinks 116 = .ok (.if_icmp .ne 6, 3) := by decide +kernel
theorem dX11_sinks_119 : decode cX11_sinks 119 = .ok (.bipush (-3), 2) := by decide +kernel
theorem dX11_sinks_121 : decode cX11_sinks 121 = .ok (.ireturn, 1) := by decide +kernel
theorem dX11_sinks_122 : decode cX11_sinks 122 = .ok (.aload_n 0, 1) := by decide +kernel
theorem dX11_sinks_123 : decode cX11_sinks 123 = .ok (.getfield 16, 3) := by decide +kernel
theorem dX11_sinks_126 : decode cX11_sinks 126 = .ok (.iload 5, 2) := by decide +kernel
theorem dX11_sinks_128 : decode cX11_sinks 128 = .ok (.iconst 1, 1) := by decide +kernel
theorem dX11_sinks_129 : decode cX11_sinks 129 = .ok (.bastore, 1) := by decide +kernel
theorem dX11_sinks_130 : decode cX11_sinks 130 = .ok (.aload_n 0, 1) := by decide +kernel
theorem dX11_sinks_131 : decode cX11_sinks 131 = .ok (.getfield 20, 3) := by decide +kernel
theorem dX11_sinks_134 : decode cX11_sinks 134 = .ok (.iload 5, 2) := by decide +kernel
theorem dX11_sinks_136 : decode cX11_sinks 136 = .ok (.iload_n 1, 1) := by decide +kernel
theorem dX11_sinks_137 : decode cX11_sinks 137 = .ok (.iastore, 1) := by decide +kernel
theorem dX11_sinks_138 : decode cX11_sinks 138 = .ok (.aload_n 0, 1) := by decide +kernel
theorem dX11_sinks_139 : decode cX11_sinks 139 = .ok (.getfield 24, 3) := by decide +kernel
theorem dX11_sinks_142 : decode cX11_sinks 142 = .ok (.iload 5, 2) := by decide +kernel
theorem dX11_sinks_144 : decode cX11_sinks 144 = .ok (.iload_n 2, 1) := by decide +kernel
theorem dX11_sinks_145 : decode cX11_sinks 145 = .ok (.iastore, 1) := by decide +kernel
theorem dX11_sinks_146 : decode cX11_sinks 146 = .ok (.aload_n 0, 1) := by decide +kernel
theorem dX11_sinks_147 : decode cX11_sinks 147 = .ok (.getfield 27, 3) := by decide +kernel
theorem dX11_sinks_150 : decode cX11_sinks 150 = .ok (.iload 5, 2) := by decide +kernel
theorem dX11_sinks_152 : decode cX11_sinks 152 = .ok (.iload_n 3, 1) := by decide +kernel
theorem dX11_sinks_153 : decode cX11_sinks 153 = .ok (.iastore, 1) := by decide +kernel
theorem dX11_sinks_154 : decode cX11_sinks 154 = .ok (.aload_n 0, 1) := by decide +kernel
theorem dX11_sinks_155 : decode cX11_sinks 155 = .ok (.getfield 30, 3) := by decide +kernel
theorem dX11_sinks_158 : decode cX11_sinks 158 = .ok (.iload 5, 2) := by decide +kernel
theorem dX11_sinks_160 : decode cX11_sinks 160 = .ok (.iload 4, 2) := by decide +kernel
theorem dX11_sinks_162 : decode cX11_sinks 162 = .ok (.iastore, 1) := by decide +kernel
theorem dX11_sinks_163 : decode cX11_sinks 163 = .ok (.iload 5, 2) := by decide +kernel
theorem dX11_sinks_165 : decode cX11_sinks 165 = .ok (.ireturn, 1) := by decide +kernel
theorem dX11_sink_0 : decode cX11_sink 0 = .ok (.aload_n 0, 1) := by decide +kernel
theorem dX11_sink_1 : decode cX11_sink 1 = .ok (.iload_n 1, 1) := by decide +kernel
theorem dX11_sink_2 : decode cX11_sink 2 = .ok (.iload_n 2, 1) := by decide +kernel
theorem dX11_sink_3 : decode cX11_sink 3 = .ok (.iload_n 3, 1) := by decide +kernel
theorem dX11_sink_4 : decode cX11_sink 4 = .ok (.iload 4, 2) := by decide +kernel
theorem dX11_sink_6 : decode cX11_sink 6 = .ok (.invokevirtual 140, 3) := by decide +kernel
theorem dX11_sink_9 : decode cX11_sink 9 = .ok (.istore 5, 2) := by decide +kernel
theorem dX11_sink_11 : decode cX11_sink 11 = .ok (.iload 5, 2) := by decide +kernel
theorem dX11_sink_13 : decode cX11_sink 13 = .ok (.ifCond .ge 6, 3) := by decide +kernel
theorem dX11_sink_16 : decode cX11_sink 16 = .ok (.iload 5, 2) := by decide +kernel
theorem dX11_sink_18 : decode cX11_sink 18 = .ok (.ireturn, 1) := by decide +kernel
theorem dX11_sink_19 : decode cX11_sink 19 = .ok (.aload_n 0, 1) := by decide +kernel
theorem dX11_sink_20 : decode cX11_sink 20 = .ok (.getfield 16, 3) := by decide +kernel
theorem dX11_sink_23 : decode cX11_sink 23 = .ok (.iload 5, 2) := by decide +kernel
theorem dX11_sink_25 : decode cX11_sink 25 = .ok (.iconst 0, 1) := by decide +kernel
theorem dX11_sink_26 : decode cX11_sink 26 = .ok (.bastore, 1) := by decide +kernel
theorem dX11_sink_27 : decode cX11_sink 27 = .ok (.aload_n 0, 1) := by decide +kernel
theorem dX11_sink_28 : decode cX11_sink 28 = .ok (.invokevirtual 131, 3) := by decide +kernel
theorem dX11_sink_31 : decode cX11_sink 31 = .ok (.aload_n 0, 1) := by decide +kernel
theorem dX11_sink_32 : decode cX11_sink 32 = .ok (.getfield 16, 3) := by decide +kernel
theorem dX11_sink_35 : decode cX11_sink 35 = .ok (.iload 5, 2) := by decide +kernel
theorem dX11_sink_37 : decode cX11_sink 37 = .ok (.iconst 1, 1) := by decide +kernel
theorem dX11_sink_38 : decode cX11_sink 38 = .ok (.bastore, 1) := by decide +kernel
theorem dX11_sink_39 : decode cX11_sink 39 = .ok (.iload 5, 2) := by decide +kernel
theorem dX11_sink_41 : decode cX11_sink 41 = .ok (.ireturn, 1) := by decide +kernel
theorem dX11_fill_0 : decode cX11_fill 0 = .ok (.aload_n 0, 1) := by decide +kernel
theorem dX11_fill_1 : decode cX11_fill 1 = .ok (.iload_n 1, 1) := by decide +kernel
theorem dX11_fill_2 : decode cX11_fill 2 = .ok (.invokevirtual 124, 3) := by decide +kernel
theorem dX11_fill_5 : decode cX11_fill 5 = .ok (.ifCond .ne 5, 3) := by decide +kernel
theorem dX11_fill_8 : decode cX11_fill 8 = .ok (.iconst (-1), 1) := by decide +kernel
theorem dX11_fill_9 : decode cX11_fill 9 = .ok (.ireturn, 1) := by decide +kernel
theorem dX11_fill_10 : decode cX11_fill 10 = .ok (.aload_n 0, 1) := by decide +kernel
theorem dX11_fill_11 : decode cX11_fill 11 = .ok (.invokevirtual 131, 3) := by decide +kernel
theorem dX11_fill_14 : decode cX11_fill 14 = .ok (.aload_n 0, 1) := by decide +kernel
theorem dX11_fill_15 : decode cX11_fill 15 = .ok (.getfield 16, 3) := by decide +kernel
theorem dX11_fill_18 : decode cX11_fill 18 = .ok (.iload_n 1, 1) := by decide +kernel
theorem dX11_fill_19 : decode cX11_fill 19 = .ok (.iconst 0, 1) := by decide +kernel
theorem dX11_fill_20 : decode cX11_fill 20 = .ok (.bastore, 1) := by decide +kernel
theorem dX11_fill_21 : decode cX11_fill 21 = .ok (.aload_n 0, 1) := by decide +kernel
theorem dX11_fill_22 : decode cX11_fill 22 = .ok (.iconst 0, 1) := by decide +kernel
theorem dX11_fill_23 : decode cX11_fill 23 = .ok (.invokevirtual 144, 3) := by decide +kernel
theorem dX11_fill_26 : decode cX11_fill 26 = .ok (.ireturn, 1) := by decide +kernel
theorem dX11_become_0 : decode cX11_become 0 = .ok (.aload_n 0, 1) := by decide +kernel
theorem dX11_become_1 : decode cX11_become 1 = .ok (.iload_n 1, 1) := by decide +kernel
theorem dX11_become_2 : decode cX11_become 2 = .ok (.invokevirtual 124, 3) := by decide +kernel
theorem dX11_become_5 : decode cX11_become 5 = .ok (.ifCond .eq 11, 3) := by decide +kernel
theorem dX11_become_8 : decode cX11_become 8 = .ok (.iload_n 2, 1) := by decide +kernel
theorem dX11_become_9 : decode cX11_become 9 = .ok (.iload_n 3, 1) := by decide +kernel
theorem dX11_become_10 : decode cX11_become 10 = .ok (.invokestatic 136, 3) := by decide +kernel
theorem dX11_become_13 : decode cX11_become 13 = .ok (.ifCond .ne 5, 3) := by decide +kernel
theorem dX11_become_16 : decode cX11_become 16 = .ok (.iconst (-1), 1) := by decide +kernel
theorem dX11_become_17 : decode cX11_become 17 = .ok (.ireturn, 1) := by decide +kernel
theorem dX11_become_18 : decode cX11_become 18 = .ok (.aload_n 0, 1) := by decide +kernel
theorem dX11_become_19 : decode cX11_become 19 = .ok (.invokevirtual 131, 3) := by decide +kernel
theorem dX11_become_22 : decode cX11_become 22 = .ok (.aload_n 0, 1) := by decide +kernel
theorem dX11_become_23 : decode cX11_become 23 = .ok (.getfield 27, 3) := by decide +kernel
theorem dX11_become_26 : decode cX11_become 26 = .ok (.iload_n 1, 1) := by decide +kernel
theorem dX11_become_27 : decode cX11_become 27 = .ok (.iaload, 1) := by decide +kernel
theorem dX11_become_28 : decode cX11_become 28 = .ok (.istore 4, 2) := by decide +kernel
theorem dX11_become_30 : decode cX11_become 30 = .ok (.aload_n 0, 1) := by decide +kernel
theorem dX11_become_31 : decode cX11_become 31 = .ok (.getfield 27, 3) := by decide +kernel
theorem dX11_become_34 : decode cX11_become 34 = .ok (.iload_n 1, 1) := by decide +kernel
theorem dX11_become_35 : decode cX11_become 35 = .ok (.iload_n 2, 1) := by decide +kernel
theorem dX11_become_36 : decode cX11_become 36 = .ok (.iastore, 1) := by decide +kernel
theorem dX11_become_37 : decode cX11_become 37 = .ok (.aload_n 0, 1) := by decide +kernel
theorem dX11_become_38 : decode cX11_become 38 = .ok (.getfield 30, 3) := by decide +kernel
theorem dX11_become_41 : decode cX11_become 41 = .ok (.iload_n 1, 1) := by decide +kernel
theorem dX11_become_42 : decode cX11_become 42 = .ok (.iload_n 3, 1) := by decide +kernel
theorem dX11_become_43 : decode cX11_become 43 = .ok (.iastore, 1) := by decide +kernel
theorem dX11_become_44 : decode cX11_become 44 = .ok (.iload 4, 2) := by decide +kernel
theorem dX11_become_46 : decode cX11_become 46 = .ok (.ireturn, 1) := by decide +kernel
theorem dX11_well_0 : decode cX11_well 0 = .ok (.aload_n 0, 1) := by decide +kernel
theorem dX11_well_1 : decode cX11_well 1 = .ok (.iload_n 1, 1) := by decide +kernel
theorem dX11_well_2 : decode cX11_well 2 = .ok (.invokevirtual 124, 3) := by decide +kernel
theorem dX11_well_5 : decode cX11_well 5 = .ok (.ifCond .ne 5, 3) := by decide +kernel
theorem dX11_well_8 : decode cX11_well 8 = .ok (.iconst (-1), 1) := by decide +kernel
theorem dX11_well_9 : decode cX11_well 9 = .ok (.ireturn, 1) := by decide +kernel
theorem dX11_well_10 : decode cX11_well 10 = .ok (.iload_n 2, 1) := by decide +kernel
theorem dX11_well_11 : decode cX11_well 11 = .ok (.tableswitch 64 0 3 #[29, 36, 43, 50], 29) := by decide +kernel
theorem dX11_well_40 : decode cX11_well 40 = .ok (.aload_n 0, 1) := by decide +kernel
theorem dX11_well_41 : decode cX11_well 41 = .ok (.getfield 20, 3) := by decide +kernel
theorem dX11_well_44 : decode cX11_well 44 = .ok (.iload_n 1, 1) := by decide +kernel
theorem dX11_well_45 : decode cX11_well 45 = .ok (.iaload, 1) := by decide +kernel
theorem dX11_well_46 : decode cX11_well 46 = .ok (.ireturn, 1) := by decide +kernel
theorem dX11_well_47 : decode cX11_well 47 = .ok (.aload_n 0, 1) := by decide +kernel
theorem dX11_well_48 : decode cX11_well 48 = .ok (.getfield 24, 3) := by decide +kernel
theorem dX11_well_51 : decode cX11_well 51 = .ok (.iload_n 1, 1) := by decide +kernel
theorem dX11_well_52 : decode cX11_well 52 = .ok (.iaload, 1) := by decide +kernel
theorem dX11_well_53 : decode cX11_well 53 = .ok (.ireturn, 1) := by decide +kernel
theorem dX11_well_54 : decode cX11_well 54 = .ok (.aload_n 0, 1) := by decide +kernel
theorem dX11_well_55 : decode cX11_well 55 = .ok (.getfield 27, 3) := by decide +kernel
theorem dX11_well_58 : decode cX11_well 58 = .ok (.iload_n 1, 1) := by decide +kernel
theorem dX11_well_59 : decode cX11_well 59 = .ok (.iaload, 1) := by decide +kernel
theorem dX11_well_60 : decode cX11_well 60 = .ok (.ireturn, 1) := by decide +kernel
theorem dX11_well_61 : decode cX11_well 61 = .ok (.aload_n 0, 1) := by decide +kernel
theorem dX11_well_62 : decode cX11_well 62 = .ok (.iload_n 1, 1) := by decide +kernel
theorem dX11_well_63 : decode cX11_well 63 = .ok (.invokevirtual 148, 3) := by decide +kernel
theorem dX11_well_66 : decode cX11_well 66 = .ok (.ifCond .eq 7, 3) := by decide +kernel
theorem dX11_well_69 : decode cX11_well 69 = .ok (.iconst 1, 1) := by decide +kernel
theorem dX11_well_70 : decode cX11_well 70 = .ok (.goto 4, 3) := by decide +kernel
theorem dX11_well_73 : decode cX11_well 73 = .ok (.iconst 0, 1) := by decide +kernel
theorem dX11_well_74 : decode cX11_well 74 = .ok (.ireturn, 1) := by decide +kernel
theorem dX11_well_75 : decode cX11_well 75 = .ok (.iconst (-1), 1) := by decide +kernel
theorem dX11_well_76 : decode cX11_well 76 = .ok (.ireturn, 1) := by decide +kernel
theorem dX11_ask_0 : decode cX11_ask 0 = .ok (.aload_n 0, 1) := by decide +kernel
theorem dX11_ask_1 : decode cX11_ask 1 = .ok (.iload_n 1, 1) := by decide +kernel
theorem dX11_ask_2 : decode cX11_ask 2 = .ok (.invokevirtual 124, 3) := by decide +kernel
theorem dX11_ask_5 : decode cX11_ask 5 = .ok (.ifCond .ne 5, 3) := by decide +kernel
theorem dX11_ask_8 : decode cX11_ask 8 = .ok (.iconst (-1), 1) := by decide +kernel
theorem dX11_ask_9 : decode cX11_ask 9 = .ok (.ireturn, 1) := by decide +kernel
theorem dX11_ask_10 : decode cX11_ask 10 = .ok (.aload_n 0, 1) := by decide +kernel
theorem dX11_ask_11 : decode cX11_ask 11 = .ok (.getfield 27, 3) := by decide +kernel
theorem dX11_ask_14 : decode cX11_ask 14 = .ok (.iload_n 1, 1) := by decide +kernel
theorem dX11_ask_15 : decode cX11_ask 15 = .ok (.iaload, 1) := by decide +kernel
theorem dX11_ask_16 : decode cX11_ask 16 = .ok (.istore_n 3, 1) := by decide +kernel
theorem dX11_ask_17 : decode cX11_ask 17 = .ok (.iload_n 2, 1) := by decide +kernel
theorem dX11_ask_18 : decode cX11_ask 18 = .ok (.tableswitch 102 0 3 #[30, 47, 73, 85], 30) := by decide +kernel
theorem dX11_ask_48 : decode cX11_ask 48 = .ok (.iload_n 3, 1) := by decide +kernel
theorem dX11_ask_49 : decode cX11_ask 49 = .ok (.iconst 1, 1) := by decide +kernel
theorem dX11_ask_50 : decode cX11_ask 50 = .ok (.if_icmp .ne 12, 3) := by decide +kernel
theorem dX11_ask_53 : decode cX11_ask 53 = .ok (.aload_n 0, 1) := by decide +kernel
theorem dX11_ask_54 : decode cX11_ask 54 = .ok (.getfield 30, 3) := by decide +kernel
theorem dX11_ask_57 : decode cX11_ask 57 = .ok (.iload_n 1, 1) := by decide +kernel
theorem dX11_ask_58 : decode cX11_ask 58 = .ok (.iaload, 1) := by decide +kernel
theorem dX11_ask_59 : decode cX11_ask 59 = .ok (.goto 5, 3) := by decide +kernel
theorem dX11_ask_62 : decode cX11_ask 62 = .ok (.bipush (-2), 2) := by decide +kernel
theorem dX11_ask_64 : decode cX11_ask 64 = .ok (.ireturn, 1) := by decide +kernel
theorem dX11_ask_65 : decode cX11_ask 65 = .ok (.iload_n 3, 1) := by decide +kernel
theorem dX11_ask_66 : decode cX11_ask 66 = .ok (.iconst 2, 1) := by decide +kernel
theorem dX11_ask_67 : decode cX11_ask 67 = .ok (.if_icmp .ne 12, 3) := by decide +kernel
theorem dX11_ask_70 : decode cX11_ask 70 = .ok (.aload_n 0, 1) := by decide +kernel
theorem dX11_ask_71 : decode cX11_ask 71 = .ok (.getfield 30, 3) := by decide +kernel
theorem dX11_ask_74 : decode cX11_ask 74 = .ok (.iload_n 1, 1) := by decide +kernel
theorem dX11_ask_75 : decode cX11_ask 75 = .ok (.iaload, 1) := by decide +kernel
theorem dX11_ask_76 : decode cX11_ask 76 = .ok (.goto 14, 3) := by decide +kernel
theorem dX11_ask_79 : decode cX11_ask 79 = .ok (.iload_n 3, 1) := by decide +kernel
theorem dX11_ask_80 : decode cX11_ask 80 = .ok (.iconst 2, 1) := by decide +kernel
theorem dX11_ask_81 : decode cX11_ask 81 = .ok (.if_icmp .le 7, 3) := by decide +kernel
theorem dX11_ask_84 : decode cX11_ask 84 = .ok (.iconst 0, 1) := by decide +kernel
theorem dX11_ask_85 : decode cX11_ask 85 = .ok (.goto 5, 3) := by decide +kernel
theorem dX11_ask_88 : decode cX11_ask 88 = .ok (.bipush (-2), 2) := by decide +kernel
theorem dX11_ask_90 : decode cX11_ask 90 = .ok (.ireturn, 1) := by decide +kernel
theorem dX11_ask_91 : decode cX11_ask 91 = .ok (.iload_n 3, 1) := by decide +kernel
theorem dX11_ask_92 : decode cX11_ask 92 = .ok (.iconst 2, 1) := by decide +kernel
theorem dX11_ask_93 : decode cX11_ask 93 = .ok (.if_icmp .le 7, 3) := by decide +kernel
theorem dX11_ask_96 : decode cX11_ask 96 = .ok (.iconst 0, 1) := by decide +kernel
theorem dX11_ask_97 : decode cX11_ask 97 = .ok (.goto 5, 3) := by decide +kernel
theorem dX11_ask_100 : decode cX11_ask 100 = .ok (.bipush (-2), 2) := by decide +kernel
theorem dX11_ask_102 : decode cX11_ask 102 = .ok (.ireturn, 1) := by decide +kernel
theorem dX11_ask_103 : decode cX11_ask 103 = .ok (.iload_n 3, 1) := by decide +kernel
theorem dX11_ask_104 : decode cX11_ask 104 = .ok (.iconst 4, 1) := by decide +kernel
theorem dX11_ask_105 : decode cX11_ask 105 = .ok (.if_icmp .ne 12, 3) := by decide +kernel
theorem dX11_ask_108 : decode cX11_ask 108 = .ok (.aload_n 0, 1) := by decide +kernel
theorem dX11_ask_109 : decode cX11_ask 109 = .ok (.getfield 30, 3) := by decide +kernel
theorem dX11_ask_112 : decode cX11_ask 112 = .ok (.iload_n 1, 1) := by decide +kernel
theorem dX11_ask_113 : decode cX11_ask 113 = .ok (.iaload, 1) := by decide +kernel
theorem dX11_ask_114 : decode cX11_ask 114 = .ok (.goto 5, 3) := by decide +kernel
theorem dX11_ask_117 : decode cX11_ask 117 = .ok (.bipush (-2), 2) := by decide +kernel
theorem dX11_ask_119 : decode cX11_ask 119 = .ok (.ireturn, 1) := by decide +kernel
theorem dX11_ask_120 : decode cX11_ask 120 = .ok (.iconst (-1), 1) := by decide +kernel
theorem dX11_ask_121 : decode cX11_ask 121 = .ok (.ireturn, 1) := by decide +kernel
theorem dX11_count_0 : decode cX11_count 0 = .ok (.iconst 0, 1) := by decide +kernel
theorem dX11_count_1 : decode cX11_count 1 = .ok (.istore_n 2, 1) := by decide +kernel
theorem dX11_count_2 : decode cX11_count 2 = .ok (.iconst 0, 1) := by decide +kernel
theorem dX11_count_3 : decode cX11_count 3 = .ok (.istore_n 3, 1) := by decide +kernel
theorem dX11_count_4 : decode cX11_count 4 = .ok (.iload_n 3, 1) := by decide +kernel
theorem dX11_count_5 : decode cX11_count 5 = .ok (.bipush 24, 2) := by decide +kernel
theorem dX11_count_7 : decode cX11_count 7 = .ok (.if_icmp .ge 36, 3) := by decide +kernel
theorem dX11_count_10 : decode cX11_count 10 = .ok (.iload_n 1, 1) := by decide +kernel
theorem dX11_count_11 : decode cX11_count 11 = .ok (.ifCond .ne 15, 3) := by decide +kernel
theorem dX11_count_14 : decode cX11_count 14 = .ok (.aload_n 0, 1) := by decide +kernel
theorem dX11_count_15 : decode cX11_count 15 = .ok (.getfield 16, 3) := by decide +kernel
theorem dX11_count_18 : decode cX11_count 18 = .ok (.iload_n 3, 1) := by decide +kernel
theorem dX11_count_19 : decode cX11_count 19 = .ok (.baload, 1) := by decide +kernel
theorem dX11_count_20 : decode cX11_count 20 = .ok (.ifCond .eq 17, 3) := by decide +kernel
theorem dX11_count_23 : decode cX11_count 23 = .ok (.goto 11, 3) := by decide +kernel
theorem dX11_count_26 : decode cX11_count 26 = .ok (.aload_n 0, 1) := by decide +kernel
theorem dX11_count_27 : decode cX11_count 27 = .ok (.iload_n 3, 1) := by decide +kernel
theorem dX11_count_28 : decode cX11_count 28 = .ok (.invokevirtual 148, 3) := by decide +kernel
theorem dX11_count_31 : decode cX11_count 31 = .ok (.ifCond .eq 6, 3) := by decide +kernel
theorem dX11_count_34 : decode cX11_count 34 = .ok (.iinc 2 1, 3) := by decide +kernel
theorem dX11_count_37 : decode cX11_count 37 = .ok (.iinc 3 1, 3) := by decide +kernel
theorem dX11_count_40 : decode cX11_count 40 = .ok (.goto (-36), 3) := by decide +kernel
theorem dX11_count_43 : decode cX11_count 43 = .ok (.iload_n 1, 1) := by decide +kernel
theorem dX11_count_44 : decode cX11_count 44 = .ok (.ifCond .eq 8, 3) := by decide +kernel
theorem dX11_count_47 : decode cX11_count 47 = .ok (.iload_n 1, 1) := by decide +kernel
theorem dX11_count_48 : decode cX11_count 48 = .ok (.iconst 1, 1) := by decide +kernel
theorem dX11_count_49 : decode cX11_count 49 = .ok (.if_icmp .ne 7, 3) := by decide +kernel
theorem dX11_count_52 : decode cX11_count 52 = .ok (.iload_n 2, 1) := by decide +kernel
theorem dX11_count_53 : decode cX11_count 53 = .ok (.goto 16, 3) := by decide +kernel
theorem dX11_count_56 : decode cX11_count 56 = .ok (.iload_n 1, 1) := by decide +kernel
theorem dX11_count_57 : decode cX11_count 57 = .ok (.iconst 2, 1) := by decide +kernel
theorem dX11_count_58 : decode cX11_count 58 = .ok (.if_icmp .ne 10, 3) := by decide +kernel
theorem dX11_count_61 : decode cX11_count 61 = .ok (.aload_n 0, 1) := by decide +kernel
theorem dX11_count_62 : decode cX11_count 62 = .ok (.getfield 118, 3) := by decide +kernel
theorem dX11_count_65 : decode cX11_count 65 = .ok (.goto 4, 3) := by decide +kernel
theorem dX11_count_68 : decode cX11_count 68 = .ok (.iconst (-1), 1) := by decide +kernel
theorem dX11_count_69 : decode cX11_count 69 = .ok (.ireturn, 1) := by decide +kernel
theorem dX11_isPoint_0 : decode cX11_isPoint 0 = .ok (.iload_n 3, 1) := by decide +kernel
theorem dX11_isPoint_1 : decode cX11_isPoint 1 = .ok (.iconst 1, 1) := by decide +kernel
theorem dX11_isPoint_2 : decode cX11_isPoint 2 = .ok (.if_icmp .lt 42, 3) := by decide +kernel
theorem dX11_isPoint_5 : decode cX11_isPoint 5 = .ok (.iload_n 3, 1) := by decide +kernel
theorem dX11_isPoint_6 : decode cX11_isPoint 6 = .ok (.sipush 1000, 3) := by decide +kernel
theorem dX11_isPoint_9 : decode cX11_isPoint 9 = .ok (.if_icmp .gt 35, 3) := by decide +kernel
theorem dX11_isPoint_12 : decode cX11_isPoint 12 = .ok (.iload_n 1, 1) := by decide +kernel
theorem dX11_isPoint_13 : decode cX11_isPoint 13 = .ok (.ifCond .lt 31, 3) := by decide +kernel
theorem dX11_isPoint_16 : decode cX11_isPoint 16 = .ok (.iload_n 2, 1) := by decide +kernel
theorem dX11_isPoint_17 : decode cX11_isPoint 17 = .ok (.ifCond .lt 27, 3) := by decide +kernel
theorem dX11_isPoint_20 : decode cX11_isPoint 20 = .ok (.iload_n 1, 1) := by decide +kernel
theorem dX11_isPoint_21 : decode cX11_isPoint 21 = .ok (.aload_n 0, 1) := by decide +kernel
theorem dX11_isPoint_22 : decode cX11_isPoint 22 = .ok (.getfield 7, 3) := by decide +kernel
theorem dX11_isPoint_25 : decode cX11_isPoint 25 = .ok (.iload_n 3, 1) := by decide +kernel
theorem dX11_isPoint_26 : decode cX11_isPoint 26 = .ok (.imul, 1) := by decide +kernel
theorem dX11_isPoint_27 : decode cX11_isPoint 27 = .ok (.if_icmp .gt 17, 3) := by decide +kernel
theorem dX11_isPoint_30 : decode cX11_isPoint 30 = .ok (.iload_n 2, 1) := by decide +kernel
theorem dX11_isPoint_31 : decode cX11_isPoint 31 = .ok (.aload_n 0, 1) := by decide +kernel
theorem dX11_isPoint_32 : decode cX11_isPoint 32 = .ok (.getfield 13, 3) := by decide +kernel
theorem dX11_isPoint_35 : decode cX11_isPoint 35 = .ok (.iload_n 3, 1) := by decide +kernel
theorem dX11_isPoint_36 : decode cX11_isPoint 36 = .ok (.imul, 1) := by decide +kernel
theorem dX11_isPoint_37 : decode cX11_isPoint 37 = .ok (.if_icmp .gt 7, 3) := by decide +kernel
theorem dX11_isPoint_40 : decode cX11_isPoint 40 = .ok (.iconst 1, 1) := by decide +kernel
theorem dX11_isPoint_41 : decode cX11_isPoint 41 = .ok (.goto 4, 3) := by decide +kernel
theorem dX11_isPoint_44 : decode cX11_isPoint 44 = .ok (.iconst 0, 1) := by decide +kernel
theorem dX11_isPoint_45 : decode cX11_isPoint 45 = .ok (.ireturn, 1) := by decide +kernel
theorem dX11_cost_0 : decode cX11_cost 0 = .ok (.iload_n 2, 1) := by decide +kernel
theorem dX11_cost_1 : decode cX11_cost 1 = .ok (.i2l, 1) := by decide +kernel
theorem dX11_cost_2 : decode cX11_cost 2 = .ok (.iload 4, 2) := by decide +kernel
theorem dX11_cost_4 : decode cX11_cost 4 = .ok (.i2l, 1) := by decide +kernel
theorem dX11_cost_5 : decode cX11_cost 5 = .ok (.aload_n 0, 1) := by decide +kernel
theorem dX11_cost_6 : decode cX11_cost 6 = .ok (.getfield 20, 3) := by decide +kernel
theorem dX11_cost_9 : decode cX11_cost 9 = .ok (.iload_n 1, 1) := by decide +kernel
theorem dX11_cost_10 : decode cX11_cost 10 = .ok (.iaload, 1) := by decide +kernel
theorem dX11_cost_11 : decode cX11_cost 11 = .ok (.i2l, 1) := by decide +kernel
theorem dX11_cost_12 : decode cX11_cost 12 = .ok (.lmul, 1) := by decide +kernel
theorem dX11_cost_13 : decode cX11_cost 13 = .ok (.lsub, 1) := by decide +kernel
theorem dX11_cost_14 : decode cX11_cost 14 = .ok (.lstore 5, 2) := by decide +kernel
theorem dX11_cost_16 : decode cX11_cost 16 = .ok (.iload_n 3, 1) := by decide +kernel
theorem dX11_cost_17 : decode cX11_cost 17 = .ok (.i2l, 1) := by decide +kernel
theorem dX11_cost_18 : decode cX11_cost 18 = .ok (.iload 4, 2) := by decide +kernel
theorem dX11_cost_20 : decode cX11_cost 20 = .ok (.i2l, 1) := by decide +kernel
theorem dX11_cost_21 : decode cX11_cost 21 = .ok (.aload_n 0, 1) := by decide +kernel
theorem dX11_cost_22 : decode cX11_cost 22 = .ok (.getfield 24, 3) := by decide +kernel
theorem dX11_cost_25 : decode cX11_cost 25 = .ok (.iload_n 1, 1) := by decide +kernel
theorem dX11_cost_26 : decode cX11_cost 26 = .ok (.iaload, 1) := by decide +kernel
theorem dX11_cost_27 : decode cX11_cost 27 = .ok (.i2l, 1) := by decide +kernel
theorem dX11_cost_28 : decode cX11_cost 28 = .ok (.lmul, 1) := by decide +kernel
theorem dX11_cost_29 : decode cX11_cost 29 = .ok (.lsub, 1) := by decide +kernel
theorem dX11_cost_30 : decode cX11_cost 30 = .ok (.lstore 7, 2) := by decide +kernel
theorem dX11_cost_32 : decode cX11_cost 32 = .ok (.lload 5, 2) := by decide +kernel
theorem dX11_cost_34 : decode cX11_cost 34 = .ok (.lload 5, 2) := by decide +kernel
theorem dX11_cost_36 : decode cX11_cost 36 = .ok (.lmul, 1) := by decide +kernel
theorem dX11_cost_37 : decode cX11_cost 37 = .ok (.lload 7, 2) := by decide +kernel
theorem dX11_cost_39 : decode cX11_cost 39 = .ok (.lload 7, 2) := by decide +kernel
theorem dX11_cost_41 : decode cX11_cost 41 = .ok (.lmul, 1) := by decide +kernel
theorem dX11_cost_42 : decode cX11_cost 42 = .ok (.ladd, 1) := by decide +kernel
theorem dX11_cost_43 : decode cX11_cost 43 = .ok (.aload_n 0, 1) := by decide +kernel
theorem dX11_cost_44 : decode cX11_cost 44 = .ok (.iload_n 1, 1) := by decide +kernel
theorem dX11_cost_45 : decode cX11_cost 45 = .ok (.invokevirtual 151, 3) := by decide +kernel
theorem dX11_cost_48 : decode cX11_cost 48 = .ok (.iload 4, 2) := by decide +kernel
theorem dX11_cost_50 : decode cX11_cost 50 = .ok (.i2l, 1) := by decide +kernel
theorem dX11_cost_51 : decode cX11_cost 51 = .ok (.lmul, 1) := by decide +kernel
theorem dX11_cost_52 : decode cX11_cost 52 = .ok (.iload 4, 2) := by decide +kernel
theorem dX11_cost_54 : decode cX11_cost 54 = .ok (.i2l, 1) := by decide +kernel
theorem dX11_cost_55 : decode cX11_cost 55 = .ok (.lmul, 1) := by decide +kernel
theorem dX11_cost_56 : decode cX11_cost 56 = .ok (.lsub, 1) := by decide +kernel
theorem dX11_cost_57 : decode cX11_cost 57 = .ok (.lreturn, 1) := by decide +kernel
theorem dX11_serves_0 : decode cX11_serves 0 = .ok (.aload_n 0, 1) := by decide +kernel
theorem dX11_serves_1 : decode cX11_serves 1 = .ok (.iload_n 1, 1) := by decide +kernel
theorem dX11_serves_2 : decode cX11_serves 2 = .ok (.iload_n 2, 1) := by decide +kernel
theorem dX11_serves_3 : decode cX11_serves 3 = .ok (.iload_n 3, 1) := by decide +kernel
theorem dX11_serves_4 : decode cX11_serves 4 = .ok (.invokevirtual 155, 3) := by decide +kernel
theorem dX11_serves_7 : decode cX11_serves 7 = .ok (.ifCond .ne 5, 3) := by decide +kernel
theorem dX11_serves_10 : decode cX11_serves 10 = .ok (.iconst (-1), 1) := by decide +kernel
theorem dX11_serves_11 : decode cX11_serves 11 = .ok (.ireturn, 1) := by decide +kernel
theorem dX11_serves_12 : decode cX11_serves 12 = .ok (.iconst 0, 1) := by decide +kernel
theorem dX11_serves_13 : decode cX11_serves 13 = .ok (.istore 4, 2) := by decide +kernel
theorem dX11_serves_15 : decode cX11_serves 15 = .ok (.lconst 0, 1) := by decide +kernel
theorem dX11_serves_16 : decode cX11_serves 16 = .ok (.lstore 5, 2) := by decide +kernel
theorem dX11_serves_18 : decode cX11_serves 18 = .ok (.iconst 0, 1) := by decide +kernel
theorem dX11_serves_19 : decode cX11_serves 19 = .ok (.istore 7, 2) := by decide +kernel
theorem dX11_serves_21 : decode cX11_serves 21 = .ok (.iload 7, 2) := by decide +kernel
theorem dX11_serves_23 : decode cX11_serves 23 = .ok (.bipush 24, 2) := by decide +kernel
theorem dX11_serves_25 : decode cX11_serves 25 = .ok (.if_icmp .ge 69, 3) := by decide +kernel
theorem dX11_serves_28 : decode cX11_serves 28 = .ok (.aload_n 0, 1) := by decide +kernel
theorem dX11_serves_29 : decode cX11_serves 29 = .ok (.iload 7, 2) := by decide +kernel
theorem dX11_serves_31 : decode cX11_serves 31 = .ok (.invokevirtual 148, 3) := by decide +kernel
theorem dX11_serves_34 : decode cX11_serves 34 = .ok (.ifCond .ne 6, 3) := by decide +kernel
theorem dX11_serves_37 : decode cX11_serves 37 = .ok (.goto 51, 3) := by decide +kernel
theorem dX11_serves_40 : decode cX11_serves 40 = .ok (.aload_n 0, 1) := by decide +kernel
theorem dX11_serves_41 : decode cX11_serves 41 = .ok (.iload 7, 2) := by decide +kernel
theorem dX11_serves_43 : decode cX11_serves 43 = .ok (.iload_n 1, 1) := by decide +kernel
theorem dX11_serves_44 : decode cX11_serves 44 = .ok (.iload_n 2, 1) := by decide +kernel
theorem dX11_serves_45 : decode cX11_serves 45 = .ok (.iload_n 3, 1) := by decide +kernel
theorem dX11_serves_46 : decode cX11_serves 46 = .ok (.invokevirtual 159, 3) := by decide +kernel
theorem dX11_serves_49 : decode cX11_serves 49 = .ok (.lstore 8, 2) := by decide +kernel
theorem dX11_serves_51 : decode cX11_serves 51 = .ok (.iload 4, 2) := by decide +kernel
theorem dX11_serves_53 : decode cX11_serves 53 = .ok (.ifCond .eq 11, 3) := by decide +kernel
theorem dX11_serves_56 : decode cX11_serves 56 = .ok (.lload 8, 2) := by decide +kernel
theorem dX11_serves_58 : decode cX11_serves 58 = .ok (.lload 5, 2) := by decide +kernel
theorem dX11_serves_60 : decode cX11_serves 60 = .ok (.lcmp, 1) := by decide +kernel
theorem dX11_serves_61 : decode cX11_serves 61 = .ok (.ifCond .ge 10, 3) := by decide +kernel
theorem dX11_serves_64 : decode cX11_serves 64 = .ok (.lload 8, 2) := by decide +kernel
theorem dX11_serves_66 : decode cX11_serves 66 = .ok (.lstore 5, 2) := by decide +kernel
theorem dX11_serves_68 : decode cX11_serves 68 = .ok (.iconst 0, 1) := by decide +kernel
theorem dX11_serves_69 : decode cX11_serves 69 = .ok (.istore 4, 2) := by decide +kernel
theorem dX11_serves_71 : decode cX11_serves 71 = .ok (.lload 8, 2) := by decide +kernel
theorem dX11_serves_73 : decode cX11_serves 73 = .ok (.lload 5, 2) := by decide +kernel
theorem dX11_serves_75 : decode cX11_serves 75 = .ok (.lcmp, 1) := by decide +kernel
theorem dX11_serves_76 : decode cX11_serves 76 = .ok (.ifCond .ne 12, 3) := by decide +kernel
theorem dX11_serves_79 : decode cX11_serves 79 = .ok (.iload 4, 2) := by decide +kernel
theorem dX11_serves_81 : decode cX11_serves 81 = .ok (.iconst 1, 1) := by decide +kernel
theorem dX11_serves_82 : decode cX11_serves 82 = .ok (.iload 7, 2) := by decide +kernel
theorem dX11_serves_84 : decode cX11_serves 84 = .ok (.ishl, 1) := by decide +kernel
theorem dX11_serves_85 : decode cX11_serves 85 = .ok (.ior, 1) := by decide +kernel
theorem dX11_serves_86 : decode cX11_serves 86 = .ok (.istore 4, 2) := by decide +kernel
theorem dX11_serves_88 : decode cX11_serves 88 = .ok (.iinc 7 1, 3) := by decide +kernel
theorem dX11_serves_91 : decode cX11_serves 91 = .ok (.goto (-70), 3) := by decide +kernel
theorem dX11_serves_94 : decode cX11_serves 94 = .ok (.iload 4, 2) := by decide +kernel
theorem dX11_serves_96 : decode cX11_serves 96 = .ok (.ireturn, 1) := by decide +kernel
theorem dX11_next_0 : decode cX11_next 0 = .ok (.aload_n 0, 1) := by decide +kernel
theorem dX11_next_1 : decode cX11_next 1 = .ok (.iload_n 1, 1) := by decide +kernel
theorem dX11_next_2 : decode cX11_next 2 = .ok (.iload_n 2, 1) := by decide +kernel
theorem dX11_next_3 : decode cX11_next 3 = .ok (.iload_n 3, 1) := by decide +kernel
theorem dX11_next_4 : decode cX11_next 4 = .ok (.invokevirtual 155, 3) := by decide +kernel
theorem dX11_next_7 : decode cX11_next 7 = .ok (.ifCond .eq 8, 3) := by decide +kernel
theorem dX11_next_10 : decode cX11_next 10 = .ok (.iload 4, 2) := by decide +kernel
theorem dX11_next_12 : decode cX11_next 12 = .ok (.ifCond .ge 5, 3) := by decide +kernel
theorem dX11_next_15 : decode cX11_next 15 = .ok (.iconst (-1), 1) := by decide +kernel
theorem dX11_next_16 : decode cX11_next 16 = .ok (.ireturn, 1) := by decide +kernel
theorem dX11_next_17 : decode cX11_next 17 = .ok (.iconst 0, 1) := by decide +kernel
theorem dX11_next_18 : decode cX11_next 18 = .ok (.istore 5, 2) := by decide +kernel
theorem dX11_next_20 : decode cX11_next 20 = .ok (.iload 5, 2) := by decide +kernel
theorem dX11_next_22 : decode cX11_next 22 = .ok (.bipush 24, 2) := by decide +kernel
theorem dX11_next_24 : decode cX11_next 24 = .ok (.if_icmp .ge 114, 3) := by decide +kernel
theorem dX11_next_27 : decode cX11_next 27 = .ok (.aload_n 0, 1) := by decide +kernel
theorem dX11_next_28 : decode cX11_next 28 = .ok (.iload 5, 2) := by decide +kernel
theorem dX11_next_30 : decode cX11_next 30 = .ok (.invokevirtual 148, 3) := by decide +kernel
theorem dX11_next_33 : decode cX11_next 33 = .ok (.ifCond .ne 6, 3) := by decide +kernel
theorem dX11_next_36 : decode cX11_next 36 = .ok (.goto 96, 3) := by decide +kernel
theorem dX11_next_39 : decode cX11_next 39 = .ok (.iconst 0, 1) := by decide +kernel
theorem dX11_next_40 : decode cX11_next 40 = .ok (.istore 6, 2) := by decide +kernel
theorem dX11_next_42 : decode cX11_next 42 = .ok (.iconst 0, 1) := by decide +kernel
theorem dX11_next_43 : decode cX11_next 43 = .ok (.istore 7, 2) := by decide +kernel
theorem dX11_next_45 : decode cX11_next 45 = .ok (.iload 7, 2) := by decide +kernel
theorem dX11_next_47 : decode cX11_next 47 = .ok (.bipush 24, 2) := by decide +kernel
theorem dX11_next_49 : decode cX11_next 49 = .ok (.if_icmp .ge 73, 3) := by decide +kernel
theorem dX11_next_52 : decode cX11_next 52 = .ok (.iload 7, 2) := by decide +kernel
theorem dX11_next_54 : decode cX11_next 54 = .ok (.iload 5, 2) := by decide +kernel
theorem dX11_next_56 : decode cX11_next 56 = .ok (.if_icmp .eq 60, 3) := by decide +kernel
theorem dX11_next_59 : decode cX11_next 59 = .ok (.aload_n 0, 1) := by decide +kernel
theorem dX11_next_60 : decode cX11_next 60 = .ok (.iload 7, 2) := by decide +kernel
theorem dX11_next_62 : decode cX11_next 62 = .ok (.invokevirtual 148, 3) := by decide +kernel
theorem dX11_next_65 : decode cX11_next 65 = .ok (.ifCond .ne 6, 3) := by decide +kernel
theorem dX11_next_68 : decode cX11_next 68 = .ok (.goto 48, 3) := by decide +kernel
theorem dX11_next_71 : decode cX11_next 71 = .ok (.aload_n 0, 1) := by decide +kernel
theorem dX11_next_72 : decode cX11_next 72 = .ok (.iload 7, 2) := by decide +kernel
theorem dX11_next_74 : decode cX11_next 74 = .ok (.iload_n 1, 1) := by decide +kernel
theorem dX11_next_75 : decode cX11_next 75 = .ok (.iload_n 2, 1) := by decide +kernel
theorem dX11_next_76 : decode cX11_next 76 = .ok (.iload_n 3, 1) := by decide +kernel
theorem dX11_next_77 : decode cX11_next 77 = .ok (.invokevirtual 159, 3) := by decide +kernel
theorem dX11_next_80 : decode cX11_next 80 = .ok (.aload_n 0, 1) := by decide +kernel
theorem dX11_next_81 : decode cX11_next 81 = .ok (.iload 5, 2) := by decide +kernel
theorem dX11_next_83 : decode cX11_next 83 = .ok (.iload_n 1, 1) := by decide +kernel
theorem dX11_next_84 : decode cX11_next 84 = .ok (.iload_n 2, 1) := by decide +kernel
theorem dX11_next_85 : decode cX11_next 85 = .ok (.iload_n 3, 1) := by decide +kernel
theorem dX11_next_86 : decode cX11_next 86 = .ok (.invokevirtual 159, 3) := by decide +kernel
theorem dX11_next_89 : decode cX11_next 89 = .ok (.lsub, 1) := by decide +kernel
theorem dX11_next_90 : decode cX11_next 90 = .ok (.lstore 8, 2) := by decide +kernel
theorem dX11_next_92 : decode cX11_next 92 = .ok (.lload 8, 2) := by decide +kernel
theorem dX11_next_94 : decode cX11_next 94 = .ok (.lconst 0, 1) := by decide +kernel
theorem dX11_next_95 : decode cX11_next 95 = .ok (.lcmp, 1) := by decide +kernel
theorem dX11_next_96 : decode cX11_next 96 = .ok (.ifCond .lt 17, 3) := by decide +kernel
theorem dX11_next_99 : decode cX11_next 99 = .ok (.lload 8, 2) := by decide +kernel
theorem dX11_next_101 : decode cX11_next 101 = .ok (.lconst 0, 1) := by decide +kernel
theorem dX11_next_102 : decode cX11_next 102 = .ok (.lcmp, 1) := by decide +kernel
theorem dX11_next_103 : decode cX11_next 103 = .ok (.ifCond .ne 13, 3) := by decide +kernel
theorem dX11_next_106 : decode cX11_next 106 = .ok (.iload 7, 2) := by decide +kernel
theorem dX11_next_108 : decode cX11_next 108 = .ok (.iload 5, 2) := by decide +kernel
theorem dX11_next_110 : decode cX11_next 110 = .ok (.if_icmp .ge 6, 3) := by decide +kernel
theorem dX11_next_113 : decode cX11_next 113 = .ok (.iinc 6 1, 3) := by decide +kernel
theorem dX11_next_116 : decode cX11_next 116 = .ok (.iinc 7 1, 3) := by decide +kernel
theorem dX11_next_119 : decode cX11_next 119 = .ok (.goto (-74), 3) := by decide +kernel
theorem dX11_next_122 : decode cX11_next 122 = .ok (.iload 6, 2) := by decide +kernel
theorem dX11_next_124 : decode cX11_next 124 = .ok (.iload 4, 2) := by decide +kernel
theorem dX11_next_126 : decode cX11_next 126 = .ok (.if_icmp .ne 6, 3) := by decide +kernel
theorem dX11_next_129 : decode cX11_next 129 = .ok (.iload 5, 2) := by decide +kernel
theorem dX11_next_131 : decode cX11_next 131 = .ok (.ireturn, 1) := by decide +kernel
theorem dX11_next_132 : decode cX11_next 132 = .ok (.iinc 5 1, 3) := by decide +kernel
theorem dX11_next_135 : decode cX11_next 135 = .ok (.goto (-115), 3) := by decide +kernel
theorem dX11_next_138 : decode cX11_next 138 = .ok (.iconst (-1), 1) := by decide +kernel
theorem dX11_next_139 : decode cX11_next 139 = .ok (.ireturn, 1) := by decide +kernel
theorem dX11_line_0 : decode cX11_line 0 = .ok (.aload_n 0, 1) := by decide +kernel
theorem dX11_line_1 : decode cX11_line 1 = .ok (.getfield 54, 3) := by decide +kernel
theorem dX11_line_4 : decode cX11_line 4 = .ok (.aload_n 0, 1) := by decide +kernel
theorem dX11_line_5 : decode cX11_line 5 = .ok (.getfield 163, 3) := by decide +kernel
theorem dX11_line_8 : decode cX11_line 8 = .ok (.lload_n 1, 1) := by decide +kernel
theorem dX11_line_9 : decode cX11_line 9 = .ok (.lastore, 1) := by decide +kernel
theorem dX11_line_10 : decode cX11_line 10 = .ok (.aload_n 0, 1) := by decide +kernel
theorem dX11_line_11 : decode cX11_line 11 = .ok (.getfield 58, 3) := by decide +kernel
theorem dX11_line_14 : decode cX11_line 14 = .ok (.aload_n 0, 1) := by decide +kernel
theorem dX11_line_15 : decode cX11_line 15 = .ok (.getfield 163, 3) := by decide +kernel
theorem dX11_line_18 : decode cX11_line 18 = .ok (.lload_n 3, 1) := by decide +kernel
theorem dX11_line_19 : decode cX11_line 19 = .ok (.lastore, 1) := by decide +kernel
theorem dX11_line_20 : decode cX11_line 20 = .ok (.aload_n 0, 1) := by decide +kernel
theorem dX11_line_21 : decode cX11_line 21 = .ok (.getfield 61, 3) := by decide +kernel
theorem dX11_line_24 : decode cX11_line 24 = .ok (.aload_n 0, 1) := by decide +kernel
theorem dX11_line_25 : decode cX11_line 25 = .ok (.getfield 163, 3) := by decide +kernel
theorem dX11_line_28 : decode cX11_line 28 = .ok (.lload 5, 2) := by decide +kernel
theorem dX11_line_30 : decode cX11_line 30 = .ok (.lastore, 1) := by decide +kernel
theorem dX11_line_31 : decode cX11_line 31 = .ok (.aload_n 0, 1) := by decide +kernel
theorem dX11_line_32 : decode cX11_line 32 = .ok (.dup, 1) := by decide +kernel
theorem dX11_line_33 : decode cX11_line 33 = .ok (.getfield 163, 3) := by decide +kernel
theorem dX11_line_36 : decode cX11_line 36 = .ok (.iconst 1, 1) := by decide +kernel
theorem dX11_line_37 : decode cX11_line 37 = .ok (.iadd, 1) := by decide +kernel
theorem dX11_line_38 : decode cX11_line 38 = .ok (.putfield 163, 3) := by decide +kernel
theorem dX11_line_41 : decode cX11_line 41 = .ok (.return_, 1) := by decide +kernel
theorem dX11_against_0 : decode cX11_against 0 = .ok (.aload_n 0, 1) := by decide +kernel
theorem dX11_against_1 : decode cX11_against 1 = .ok (.getfield 20, 3) := by decide +kernel
theorem dX11_against_4 : decode cX11_against 4 = .ok (.iload_n 2, 1) := by decide +kernel
theorem dX11_against_5 : decode cX11_against 5 = .ok (.iaload, 1) := by decide +kernel
theorem dX11_against_6 : decode cX11_against 6 = .ok (.i2l, 1) := by decide +kernel
theorem dX11_against_7 : decode cX11_against 7 = .ok (.lstore_n 3, 1) := by decide +kernel
theorem dX11_against_8 : decode cX11_against 8 = .ok (.aload_n 0, 1) := by decide +kernel
theorem dX11_against_9 : decode cX11_against 9 = .ok (.getfield 24, 3) := by decide +kernel
theorem dX11_against_12 : decode cX11_against 12 = .ok (.iload_n 2, 1) := by decide +kernel
theorem dX11_against_13 : decode cX11_against 13 = .ok (.iaload, 1) := by decide +kernel
theorem dX11_against_14 : decode cX11_against 14 = .ok (.i2l, 1) := by decide +kernel
theorem dX11_against_15 : decode cX11_against 15 = .ok (.lstore 5, 2) := by decide +kernel
theorem dX11_against_17 : decode cX11_against 17 = .ok (.aload_n 0, 1) := by decide +kernel
theorem dX11_against_18 : decode cX11_against 18 = .ok (.getfield 20, 3) := by decide +kernel
theorem dX11_against_21 : decode cX11_against 21 = .ok (.iload_n 1, 1) := by decide +kernel
theorem dX11_against_22 : decode cX11_against 22 = .ok (.iaload, 1) := by decide +kernel
theorem dX11_against_23 : decode cX11_against 23 = .ok (.i2l, 1) := by decide +kernel
theorem dX11_against_24 : decode cX11_against 24 = .ok (.lstore 7, 2) := by decide +kernel
theorem dX11_against_26 : decode cX11_against 26 = .ok (.aload_n 0, 1) := by decide +kernel
theorem dX11_against_27 : decode cX11_against 27 = .ok (.getfield 24, 3) := by decide +kernel
theorem dX11_against_30 : decode cX11_against 30 = .ok (.iload_n 1, 1) := by decide +kernel
theorem dX11_against_31 : decode cX11_against 31 = .ok (.iaload, 1) := by decide +kernel
theorem dX11_against_32 : decode cX11_against 32 = .ok (.i2l, 1) := by decide +kernel
theorem dX11_against_33 : decode cX11_against 33 = .ok (.lstore 9, 2) := by decide +kernel
theorem dX11_against_35 : decode cX11_against 35 = .ok (.aload_n 0, 1) := by decide +kernel
theorem dX11_against_36 : decode cX11_against 36 = .ok (.ldc2_w 166, 3) := by decide +kernel
theorem dX11_against_39 : decode cX11_against 39 = .ok (.lload_n 3, 1) := by decide +kernel
theorem dX11_against_40 : decode cX11_against 40 = .ok (.lload 7, 2) := by decide +kernel
theorem dX11_against_42 : decode cX11_against 42 = .ok (.lsub, 1) := by decide +kernel
theorem dX11_against_43 : decode cX11_against 43 = .ok (.lmul, 1) := by decide +kernel
theorem dX11_against_44 : decode cX11_against 44 = .ok (.ldc2_w 166, 3) := by decide +kernel
theorem dX11_against_47 : decode cX11_against 47 = .ok (.lload 5, 2) := by decide +kernel
theorem dX11_against_49 : decode cX11_against 49 = .ok (.lload 9, 2) := by decide +kernel
theorem dX11_against_51 : decode cX11_against 51 = .ok (.lsub, 1) := by decide +kernel
theorem dX11_against_52 : decode cX11_against 52 = .ok (.lmul, 1) := by decide +kernel
theorem dX11_against_53 : decode cX11_against 53 = .ok (.lload_n 3, 1) := by decide +kernel
theorem dX11_against_54 : decode cX11_against 54 = .ok (.lload_n 3, 1) := by decide +kernel
theorem dX11_against_55 : decode cX11_against 55 = .ok (.lmul, 1) := by decide +kernel
theorem dX11_against_56 : decode cX11_against 56 = .ok (.lload 5, 2) := by decide +kernel
theorem dX11_against_58 : decode cX11_against 58 = .ok (.lload 5, 2) := by decide +kernel
theorem dX11_against_60 : decode cX11_against 60 = .ok (.lmul, 1) := by decide +kernel
theorem dX11_against_61 : decode cX11_against 61 = .ok (.ladd, 1) := by decide +kernel
theorem dX11_against_62 : decode cX11_against 62 = .ok (.lload 7, 2) := by decide +kernel
theorem dX11_against_64 : decode cX11_against 64 = .ok (.lload 7, 2) := by decide +kernel
theorem dX11_against_66 : decode cX11_against 66 = .ok (.lmul, 1) := by decide +kernel
theorem dX11_against_67 : decode cX11_against 67 = .ok (.lsub, 1) := by decide +kernel
theorem dX11_against_68 : decode cX11_against 68 = .ok (.lload 9, 2) := by decide +kernel
theorem dX11_against_70 : decode cX11_against 70 = .ok (.lload 9, 2) := by decide +kernel
theorem dX11_against_72 : decode cX11_against 72 = .ok (.lmul, 1) := by decide +kernel
theorem dX11_against_73 : decode cX11_against 73 = .ok (.lsub, 1) := by decide +kernel
theorem dX11_against_74 : decode cX11_against 74 = .ok (.aload_n 0, 1) := by decide +kernel
theorem dX11_against_75 : decode cX11_against 75 = .ok (.iload_n 2, 1) := by decide +kernel
theorem dX11_against_76 : decode cX11_against 76 = .ok (.invokevirtual 151, 3) := by decide +kernel
theorem dX11_against_79 : decode cX11_against 79 = .ok (.lsub, 1) := by decide +kernel
theorem dX11_against_80 : decode cX11_against 80 = .ok (.aload_n 0, 1) := by decide +kernel
theorem dX11_against_81 : decode cX11_against 81 = .ok (.iload_n 1, 1) := by decide +kernel
theorem dX11_against_82 : decode cX11_against 82 = .ok (.invokevirtual 151, 3) := by decide +kernel
theorem dX11_against_85 : decode cX11_against 85 = .ok (.ladd, 1) := by decide +kernel
theorem dX11_against_86 : decode cX11_against 86 = .ok (.invokevirtual 168, 3) := by decide +kernel
theorem dX11_against_89 : decode cX11_against 89 = .ok (.return_, 1) := by decide +kernel
theorem dX11_linesOf_0 : decode cX11_linesOf 0 = .ok (.aload_n 0, 1) := by decide +kernel
theorem dX11_linesOf_1 : decode cX11_linesOf 1 = .ok (.iconst 0, 1) := by decide +kernel
theorem dX11_linesOf_2 : decode cX11_linesOf 2 = .ok (.putfield 163, 3) := by decide +kernel
theorem dX11_linesOf_5 : decode cX11_linesOf 5 = .ok (.iload_n 2, 1) := by decide +kernel
theorem dX11_linesOf_6 : decode cX11_linesOf 6 = .ok (.iconst (-1), 1) := by decide +kernel
theorem dX11_linesOf_7 : decode cX11_linesOf 7 = .ok (.if_icmp .eq 9, 3) := by decide +kernel
theorem dX11_linesOf_10 : decode cX11_linesOf 10 = .ok (.aload_n 0, 1) := by decide +kernel
theorem dX11_linesOf_11 : decode cX11_linesOf 11 = .ok (.iload_n 1, 1) := by decide +kernel
theorem dX11_linesOf_12 : decode cX11_linesOf 12 = .ok (.iload_n 2, 1) := by decide +kernel
theorem dX11_linesOf_13 : decode cX11_linesOf 13 = .ok (.invokevirtual 172, 3) := by decide +kernel
theorem dX11_linesOf_16 : decode cX11_linesOf 16 = .ok (.iconst 0, 1) := by decide +kernel
theorem dX11_linesOf_17 : decode cX11_linesOf 17 = .ok (.istore_n 3, 1) := by decide +kernel
theorem dX11_linesOf_18 : decode cX11_linesOf 18 = .ok (.iload_n 3, 1) := by decide +kernel
theorem dX11_linesOf_19 : decode cX11_linesOf 19 = .ok (.bipush 24, 2) := by decide +kernel
theorem dX11_linesOf_21 : decode cX11_linesOf 21 = .ok (.if_icmp .ge 33, 3) := by decide +kernel
theorem dX11_linesOf_24 : decode cX11_linesOf 24 = .ok (.iload_n 3, 1) := by decide +kernel
theorem dX11_linesOf_25 : decode cX11_linesOf 25 = .ok (.iload_n 1, 1) := by decide +kernel
theorem dX11_linesOf_26 : decode cX11_linesOf 26 = .ok (.if_icmp .eq 22, 3) := by decide +kernel
theorem dX11_linesOf_29 : decode cX11_linesOf 29 = .ok (.iload_n 3, 1) := by decide +kernel
theorem dX11_linesOf_30 : decode cX11_linesOf 30 = .ok (.iload_n 2, 1) := by decide +kernel
theorem dX11_linesOf_31 : decode cX11_linesOf 31 = .ok (.if_icmp .eq 17, 3) := by decide +kernel
theorem dX11_linesOf_34 : decode cX11_linesOf 34 = .ok (.aload_n 0, 1) := by decide +kernel
theorem dX11_linesOf_35 : decode cX11_linesOf 35 = .ok (.iload_n 3, 1) := by decide +kernel
theorem dX11_linesOf_36 : decode cX11_linesOf 36 = .ok (.invokevirtual 148, 3) := by decide +kernel
theorem dX11_linesOf_39 : decode cX11_linesOf 39 = .ok (.ifCond .eq 9, 3) := by decide +kernel
theorem dX11_linesOf_42 : decode cX11_linesOf 42 = .ok (.aload_n 0, 1) := by decide +kernel
theorem dX11_linesOf_43 : decode cX11_linesOf 43 = .ok (.iload_n 1, 1) := by decide +kernel
theorem dX11_linesOf_44 : decode cX11_linesOf 44 = .ok (.iload_n 3, 1) := by decide +kernel
theorem dX11_linesOf_45 : decode cX11_linesOf 45 = .ok (.invokevirtual 172, 3) := by decide +kernel
theorem dX11_linesOf_48 : decode cX11_linesOf 48 = .ok (.iinc 3 1, 3) := by decide +kernel
theorem dX11_linesOf_51 : decode cX11_linesOf 51 = .ok (.goto (-33), 3) := by decide +kernel
theorem dX11_linesOf_54 : decode cX11_linesOf 54 = .ok (.aload_n 0, 1) := by decide +kernel
theorem dX11_linesOf_55 : decode cX11_linesOf 55 = .ok (.ldc2_w 176, 3) := by decide +kernel
theorem dX11_linesOf_58 : decode cX11_linesOf 58 = .ok (.lconst 0, 1) := by decide +kernel
theorem dX11_linesOf_59 : decode cX11_linesOf 59 = .ok (.lconst 0, 1) := by decide +kernel
theorem dX11_linesOf_60 : decode cX11_linesOf 60 = .ok (.invokevirtual 168, 3) := by decide +kernel
theorem dX11_linesOf_63 : decode cX11_linesOf 63 = .ok (.aload_n 0, 1) := by decide +kernel
theorem dX11_linesOf_64 : decode cX11_linesOf 64 = .ok (.lconst 1, 1) := by decide +kernel
theorem dX11_linesOf_65 : decode cX11_linesOf 65 = .ok (.lconst 0, 1) := by decide +kernel
theorem dX11_linesOf_66 : decode cX11_linesOf 66 = .ok (.aload_n 0, 1) := by decide +kernel
theorem dX11_linesOf_67 : decode cX11_linesOf 67 = .ok (.getfield 7, 3) := by decide +kernel
theorem dX11_linesOf_70 : decode cX11_linesOf 70 = .ok (.i2l, 1) := by decide +kernel
theorem dX11_linesOf_71 : decode cX11_linesOf 71 = .ok (.invokevirtual 168, 3) := by decide +kernel
theorem dX11_linesOf_74 : decode cX11_linesOf 74 = .ok (.aload_n 0, 1) := by decide +kernel
theorem dX11_linesOf_75 : decode cX11_linesOf 75 = .ok (.lconst 0, 1) := by decide +kernel
theorem dX11_linesOf_76 : decode cX11_linesOf 76 = .ok (.ldc2_w 176, 3) := by decide +kernel
theorem dX11_linesOf_79 : decode cX11_linesOf 79 = .ok (.lconst 0, 1) := by decide +kernel
theorem dX11_linesOf_80 : decode cX11_linesOf 80 = .ok (.invokevirtual 168, 3) := by decide +kernel
theorem dX11_linesOf_83 : decode cX11_linesOf 83 = .ok (.aload_n 0, 1) := by decide +kernel
theorem dX11_linesOf_84 : decode cX11_linesOf 84 = .ok (.lconst 0, 1) := by decide +kernel
theorem dX11_linesOf_85 : decode cX11_linesOf 85 = .ok (.lconst 1, 1) := by decide +kernel
theorem dX11_linesOf_86 : decode cX11_linesOf 86 = .ok (.aload_n 0, 1) := by decide +kernel
theorem dX11_linesOf_87 : decode cX11_linesOf 87 = .ok (.getfield 13, 3) := by decide +kernel
theorem dX11_linesOf_90 : decode cX11_linesOf 90 = .ok (.i2l, 1) := by decide +kernel
theorem dX11_linesOf_91 : decode cX11_linesOf 91 = .ok (.invokevirtual 168, 3) := by decide +kernel
theorem dX11_linesOf_94 : decode cX11_linesOf 94 = .ok (.return_, 1) := by decide +kernel
theorem dX11_over_0 : decode cX11_over 0 = .ok (.aload_n 0, 1) := by decide +kernel
theorem dX11_over_1 : decode cX11_over 1 = .ok (.getfield 54, 3) := by decide +kernel
theorem dX11_over_4 : decode cX11_over 4 = .ok (.iload_n 1, 1) := by decide +kernel
theorem dX11_over_5 : decode cX11_over 5 = .ok (.laload, 1) := by decide +kernel
theorem dX11_over_6 : decode cX11_over 6 = .ok (.lload_n 2, 1) := by decide +kernel
theorem dX11_over_7 : decode cX11_over 7 = .ok (.lmul, 1) := by decide +kernel
theorem dX11_over_8 : decode cX11_over 8 = .ok (.aload_n 0, 1) := by decide +kernel
theorem dX11_over_9 : decode cX11_over 9 = .ok (.getfield 58, 3) := by decide +kernel
theorem dX11_over_12 : decode cX11_over 12 = .ok (.iload_n 1, 1) := by decide +kernel
theorem dX11_over_13 : decode cX11_over 13 = .ok (.laload, 1) := by decide +kernel
theorem dX11_over_14 : decode cX11_over 14 = .ok (.lload 4, 2) := by decide +kernel
theorem dX11_over_16 : decode cX11_over 16 = .ok (.lmul, 1) := by decide +kernel
theorem dX11_over_17 : decode cX11_over 17 = .ok (.ladd, 1) := by decide +kernel
theorem dX11_over_18 : decode cX11_over 18 = .ok (.aload_n 0, 1) := by decide +kernel
theorem dX11_over_19 : decode cX11_over 19 = .ok (.getfield 61, 3) := by decide +kernel
theorem dX11_over_22 : decode cX11_over 22 = .ok (.iload_n 1, 1) := by decide +kernel
theorem dX11_over_23 : decode cX11_over 23 = .ok (.laload, 1) := by decide +kernel
theorem dX11_over_24 : decode cX11_over 24 = .ok (.lload 6, 2) := by decide +kernel
theorem dX11_over_26 : decode cX11_over 26 = .ok (.lmul, 1) := by decide +kernel
theorem dX11_over_27 : decode cX11_over 27 = .ok (.lsub, 1) := by decide +kernel
theorem dX11_over_28 : decode cX11_over 28 = .ok (.lreturn, 1) := by decide +kernel
theorem dX11_isSame_0 : decode cX11_isSame 0 = .ok (.aload_n 0, 1) := by decide +kernel
theorem dX11_isSame_1 : decode cX11_isSame 1 = .ok (.getfield 64, 3) := by decide +kernel
theorem dX11_isSame_4 : decode cX11_isSame 4 = .ok (.iload_n 1, 1) := by decide +kernel
theorem dX11_isSame_5 : decode cX11_isSame 5 = .ok (.laload, 1) := by decide +kernel
theorem dX11_isSame_6 : decode cX11_isSame 6 = .ok (.lload 6, 2) := by decide +kernel
theorem dX11_isSame_8 : decode cX11_isSame 8 = .ok (.lmul, 1) := by decide +kernel
theorem dX11_isSame_9 : decode cX11_isSame 9 = .ok (.lload_n 2, 1) := by decide +kernel
theorem dX11_isSame_10 : decode cX11_isSame 10 = .ok (.aload_n 0, 1) := by decide +kernel
theorem dX11_isSame_11 : decode cX11_isSame 11 = .ok (.getfield 70, 3) := by decide +kernel
theorem dX11_isSame_14 : decode cX11_isSame 14 = .ok (.iload_n 1, 1) := by decide +kernel
theorem dX11_isSame_15 : decode cX11_isSame 15 = .ok (.laload, 1) := by decide +kernel
theorem dX11_isSame_16 : decode cX11_isSame 16 = .ok (.lmul, 1) := by decide +kernel
theorem dX11_isSame_17 : decode cX11_isSame 17 = .ok (.lcmp, 1) := by decide +kernel
theorem dX11_isSame_18 : decode cX11_isSame 18 = .ok (.ifCond .ne 29, 3) := by decide +kernel
theorem dX11_isSame_21 : decode cX11_isSame 21 = .ok (.aload_n 0, 1) := by decide +kernel
theorem dX11_isSame_22 : decode cX11_isSame 22 = .ok (.getfield 67, 3) := by decide +kernel
theorem dX11_isSame_25 : decode cX11_isSame 25 = .ok (.iload_n 1, 1) := by decide +kernel
theorem dX11_isSame_26 : decode cX11_isSame 26 = .ok (.laload, 1) := by decide +kernel
theorem dX11_isSame_27 : decode cX11_isSame 27 = .ok (.lload 6, 2) := by decide +kernel
theorem dX11_isSame_29 : decode cX11_isSame 29 = .ok (.lmul, 1) := by decide +kernel
theorem dX11_isSame_30 : decode cX11_isSame 30 = .ok (.lload 4, 2) := by decide +kernel
theorem dX11_isSame_32 : decode cX11_isSame 32 = .ok (.aload_n 0, 1) := by decide +kernel
theorem dX11_isSame_33 : decode cX11_isSame 33 = .ok (.getfield 70, 3) := by decide +kernel
theorem dX11_isSame_36 : decode cX11_isSame 36 = .ok (.iload_n 1, 1) := by decide +kernel
theorem dX11_isSame_37 : decode cX11_isSame 37 = .ok (.laload, 1) := by decide +kernel
theorem dX11_isSame_38 : decode cX11_isSame 38 = .ok (.lmul, 1) := by decide +kernel
theorem dX11_isSame_39 : decode cX11_isSame 39 = .ok (.lcmp, 1) := by decide +kernel
theorem dX11_isSame_40 : decode cX11_isSame 40 = .ok (.ifCond .ne 7, 3) := by decide +kernel
theorem dX11_isSame_43 : decode cX11_isSame 43 = .ok (.iconst 1, 1) := by decide +kernel
theorem dX11_isSame_44 : decode cX11_isSame 44 = .ok (.goto 4, 3) := by decide +kernel
theorem dX11_isSame_47 : decode cX11_isSame 47 = .ok (.iconst 0, 1) := by decide +kernel
theorem dX11_isSame_48 : decode cX11_isSame 48 = .ok (.ireturn, 1) := by decide +kernel
theorem dX11_meets_0 : decode cX11_meets 0 = .ok (.aload_n 0, 1) := by decide +kernel
theorem dX11_meets_1 : decode cX11_meets 1 = .ok (.getfield 54, 3) := by decide +kernel
theorem dX11_meets_4 : decode cX11_meets 4 = .ok (.iload_n 1, 1) := by decide +kernel
theorem dX11_meets_5 : decode cX11_meets 5 = .ok (.laload, 1) := by decide +kernel
theorem dX11_meets_6 : decode cX11_meets 6 = .ok (.aload_n 0, 1) := by decide +kernel
theorem dX11_meets_7 : decode cX11_meets 7 = .ok (.getfield 58, 3) := by decide +kernel
theorem dX11_meets_10 : decode cX11_meets 10 = .ok (.iload_n 2, 1) := by decide +kernel
theorem dX11_meets_11 : decode cX11_meets 11 = .ok (.laload, 1) := by decide +kernel
theorem dX11_meets_12 : decode cX11_meets 12 = .ok (.lmul, 1) := by decide +kernel
theorem dX11_meets_13 : decode cX11_meets 13 = .ok (.aload_n 0, 1) := by decide +kernel
theorem dX11_meets_14 : decode cX11_meets 14 = .ok (.getfield 54, 3) := by decide +kernel
theorem dX11_meets_17 : decode cX11_meets 17 = .ok (.iload_n 2, 1) := by decide +kernel
theorem dX11_meets_18 : decode cX11_meets 18 = .ok (.laload, 1) := by decide +kernel
theorem dX11_meets_19 : decode cX11_meets 19 = .ok (.aload_n 0, 1) := by decide +kernel
theorem dX11_meets_20 : decode cX11_meets 20 = .ok (.getfield 58, 3) := by decide +kernel
theorem dX11_meets_23 : decode cX11_meets 23 = .ok (.iload_n 1, 1) := by decide +kernel
theorem dX11_meets_24 : decode cX11_meets 24 = .ok (.laload, 1) := by decide +kernel
theorem dX11_meets_25 : decode cX11_meets 25 = .ok (.lmul, 1) := by decide +kernel
theorem dX11_meets_26 : decode cX11_meets 26 = .ok (.lsub, 1) := by decide +kernel
theorem dX11_meets_27 : decode cX11_meets 27 = .ok (.lstore_n 3, 1) := by decide +kernel
theorem dX11_meets_28 : decode cX11_meets 28 = .ok (.lload_n 3, 1) := by decide +kernel
theorem dX11_meets_29 : decode cX11_meets 29 = .ok (.lconst 0, 1) := by decide +kernel
theorem dX11_meets_30 : decode cX11_meets 30 = .ok (.lcmp, 1) := by decide +kernel
theorem dX11_meets_31 : decode cX11_meets 31 = .ok (.ifCond .ne 4, 3) := by decide +kernel
theorem dX11_meets_34 : decode cX11_meets 34 = .ok (.return_, 1) := by decide +kernel
theorem dX11_meets_35 : decode cX11_meets 35 = .ok (.aload_n 0, 1) := by decide +kernel
theorem dX11_meets_36 : decode cX11_meets 36 = .ok (.getfield 61, 3) := by decide +kernel
theorem dX11_meets_39 : decode cX11_meets 39 = .ok (.iload_n 1, 1) := by decide +kernel
theorem dX11_meets_40 : decode cX11_meets 40 = .ok (.laload, 1) := by decide +kernel
theorem dX11_meets_41 : decode cX11_meets 41 = .ok (.aload_n 0, 1) := by decide +kernel
theorem dX11_meets_42 : decode cX11_meets 42 = .ok (.getfield 58, 3) := by decide +kernel
theorem dX11_meets_45 : decode cX11_meets 45 = .ok (.iload_n 2, 1) := by decide +kernel
theorem dX11_meets_46 : decode cX11_meets 46 = .ok (.laload, 1) := by decide +kernel
theorem dX11_meets_47 : decode cX11_meets 47 = .ok (.lmul, 1) := by decide +kernel
theorem dX11_meets_48 : decode cX11_meets 48 = .ok (.aload_n 0, 1) := by decide +kernel
theorem dX11_meets_49 : decode cX11_meets 49 = .ok (.getfield 61, 3) := by decide +kernel
theorem dX11_meets_52 : decode cX11_meets 52 = .ok (.iload_n 2, 1) := by decide +kernel
theorem dX11_meets_53 : decode cX11_meets 53 = .ok (.laload, 1) := by decide +kernel
theorem dX11_meets_54 : decode cX11_meets 54 = .ok (.aload_n 0, 1) := by decide +kernel
theorem dX11_meets_55 : decode cX11_meets 55 = .ok (.getfield 58, 3) := by decide +kernel
theorem dX11_meets_58 : decode cX11_meets 58 = .ok (.iload_n 1, 1) := by decide +kernel
theorem dX11_meets_59 : decode cX11_meets 59 = .ok (.laload, 1) := by decide +kernel
theorem dX11_meets_60 : decode cX11_meets 60 = .ok (.lmul, 1) := by decide +kernel
theorem dX11_meets_61 : decode cX11_meets 61 = .ok (.lsub, 1) := by decide +kernel
theorem dX11_meets_62 : decode cX11_meets 62 = .ok (.lstore 5, 2) := by decide +kernel
theorem dX11_meets_64 : decode cX11_meets 64 = .ok (.aload_n 0, 1) := by decide +kernel
theorem dX11_meets_65 : decode cX11_meets 65 = .ok (.getfield 54, 3) := by decide +kernel
theorem dX11_meets_68 : decode cX11_meets 68 = .ok (.iload_n 1, 1) := by decide +kernel
theorem dX11_meets_69 : decode cX11_meets 69 = .ok (.laload, 1) := by decide +kernel
theorem dX11_meets_70 : decode cX11_meets 70 = .ok (.aload_n 0, 1) := by decide +kernel
theorem dX11_meets_71 : decode cX11_meets 71 = .ok (.getfield 61, 3) := by decide +kernel
theorem dX11_meets_74 : decode cX11_meets 74 = .ok (.iload_n 2, 1) := by decide +kernel
theorem dX11_meets_75 : decode cX11_meets 75 = .ok (.laload, 1) := by decide +kernel
theorem dX11_meets_76 : decode cX11_meets 76 = .ok (.lmul, 1) := by decide +kernel
theorem dX11_meets_77 : decode cX11_meets 77 = .ok (.aload_n 0, 1) := by decide +kernel
theorem dX11_meets_78 : decode cX11_meets 78 = .ok (.getfield 54, 3) := by decide +kernel
theorem dX11_meets_81 : decode cX11_meets 81 = .ok (.iload_n 2, 1) := by decide +kernel
theorem dX11_meets_82 : decode cX11_meets 82 = .ok (.laload, 1) := by decide +kernel
theorem dX11_meets_83 : decode cX11_meets 83 = .ok (.aload_n 0, 1) := by decide +kernel
theorem dX11_meets_84 : decode cX11_meets 84 = .ok (.getfield 61, 3) := by decide +kernel
theorem dX11_meets_87 : decode cX11_meets 87 = .ok (.iload_n 1, 1) := by decide +kernel
theorem dX11_meets_88 : decode cX11_meets 88 = .ok (.laload, 1) := by decide +kernel
theorem dX11_meets_89 : decode cX11_meets 89 = .ok (.lmul, 1) := by decide +kernel
theorem dX11_meets_90 : decode cX11_meets 90 = .ok (.lsub, 1) := by decide +kernel
theorem dX11_meets_91 : decode cX11_meets 91 = .ok (.lstore 7, 2) := by decide +kernel
theorem dX11_meets_93 : decode cX11_meets 93 = .ok (.lload_n 3, 1) := by decide +kernel
theorem dX11_meets_94 : decode cX11_meets 94 = .ok (.lconst 0, 1) := by decide +kernel
theorem dX11_meets_95 : decode cX11_meets 95 = .ok (.lcmp, 1) := by decide +kernel
theorem dX11_meets_96 : decode cX11_meets 96 = .ok (.ifCond .ge 16, 3) := by decide +kernel
theorem dX11_meets_99 : decode cX11_meets 99 = .ok (.lload_n 3, 1) := by decide +kernel
theorem dX11_meets_100 : decode cX11_meets 100 = .ok (.lneg, 1) := by decide +kernel
theorem dX11_meets_101 : decode cX11_meets 101 = .ok (.lstore_n 3, 1) := by decide +kernel
theorem dX11_meets_102 : decode cX11_meets 102 = .ok (.lload 5, 2) := by decide +kernel
theorem dX11_meets_104 : decode cX11_meets 104 = .ok (.lneg, 1) := by decide +kernel
theorem dX11_meets_105 : decode cX11_meets 105 = .ok (.lstore 5, 2) := by decide +kernel
theorem dX11_meets_107 : decode cX11_meets 107 = .ok (.lload 7, 2) := by decide +kernel
theorem dX11_meets_109 : decode cX11_meets 109 = .ok (.lneg, 1) := by decide +kernel
theorem dX11_meets_110 : decode cX11_meets 110 = .ok (.lstore 7, 2) := by decide +kernel
theorem dX11_meets_112 : decode cX11_meets 112 = .ok (.iconst 0, 1) := by decide +kernel
theorem dX11_meets_113 : decode cX11_meets 113 = .ok (.istore 9, 2) := by decide +kernel
theorem dX11_meets_115 : decode cX11_meets 115 = .ok (.iload 9, 2) := by decide +kernel
theorem dX11_meets_117 : decode cX11_meets 117 = .ok (.aload_n 0, 1) := by decide +kernel
theorem dX11_meets_118 : decode cX11_meets 118 = .ok (.getfield 163, 3) := by decide +kernel
theorem dX11_meets_121 : decode cX11_meets 121 = .ok (.if_icmp .ge 26, 3) := by decide +kernel
theorem dX11_meets_124 : decode cX11_meets 124 = .ok (.aload_n 0, 1) := by decide +kernel
theorem dX11_meets_125 : decode cX11_meets 125 = .ok (.iload 9, 2) := by decide +kernel
theorem dX11_meets_127 : decode cX11_meets 127 = .ok (.lload 5, 2) := by decide +kernel
theorem dX11_meets_129 : decode cX11_meets 129 = .ok (.lload 7, 2) := by decide +kernel
theorem dX11_meets_131 : decode cX11_meets 131 = .ok (.lload_n 3, 1) := by decide +kernel
theorem dX11_meets_132 : decode cX11_meets 132 = .ok (.invokevirtual 178, 3) := by decide +kernel
theorem dX11_meets_135 : decode cX11_meets 135 = .ok (.lconst 0, 1) := by decide +kernel
theorem dX11_meets_136 : decode cX11_meets 136 = .ok (.lcmp, 1) := by decide +kernel
theorem dX11_meets_137 : decode cX11_meets 137 = .ok (.ifCond .le 4, 3) := by decide +kernel
theorem dX11_meets_140 : decode cX11_meets 140 = .ok (.return_, 1) := by decide +kernel
theorem dX11_meets_141 : decode cX11_meets 141 = .ok (.iinc 9 1, 3) := by decide +kernel
theorem dX11_meets_144 : decode cX11_meets 144 = .ok (.goto (-29), 3) := by decide +kernel
theorem dX11_meets_147 : decode cX11_meets 147 = .ok (.iconst 0, 1) := by decide +kernel
theorem dX11_meets_148 : decode cX11_meets 148 = .ok (.istore 9, 2) := by decide +kernel
theorem dX11_meets_150 : decode cX11_meets 150 = .ok (.iload 9, 2) := by decide +kernel
theorem dX11_meets_152 : decode cX11_meets 152 = .ok (.aload_n 0, 1) := by decide +kernel
theorem dX11_meets_153 : decode cX11_meets 153 = .ok (.getfield 182, 3) := by decide +kernel
theorem dX11_meets_156 : decode cX11_meets 156 = .ok (.if_icmp .ge 24, 3) := by decide +kernel
theorem dX11_meets_159 : decode cX11_meets 159 = .ok (.aload_n 0, 1) := by decide +kernel
theorem dX11_meets_160 : decode cX11_meets 160 = .ok (.iload 9, 2) := by decide +kernel
theorem dX11_meets_162 : decode cX11_meets 162 = .ok (.lload 5, 2) := by decide +kernel
theorem dX11_meets_164 : decode cX11_meets 164 = .ok (.lload 7, 2) := by decide +kernel
theorem dX11_meets_166 : decode cX11_meets 166 = .ok (.lload_n 3, 1) := by decide +kernel
theorem dX11_meets_167 : decode cX11_meets 167 = .ok (.invokevirtual 185, 3) := by decide +kernel
theorem dX11_meets_170 : decode cX11_meets 170 = .ok (.ifCond .eq 4, 3) := by decide +kernel
theorem dX11_meets_173 : decode cX11_meets 173 = .ok (.return_, 1) := by decide +kernel
theorem dX11_meets_174 : decode cX11_meets 174 = .ok (.iinc 9 1, 3) := by decide +kernel
theorem dX11_meets_177 : decode cX11_meets 177 = .ok (.goto (-27), 3) := by decide +kernel
theorem dX11_meets_180 : decode cX11_meets 180 = .ok (.aload_n 0, 1) := by decide +kernel
theorem dX11_meets_181 : decode cX11_meets 181 = .ok (.getfield 64, 3) := by decide +kernel
theorem dX11_meets_184 : decode cX11_meets 184 = .ok (.aload_n 0, 1) := by decide +kernel
theorem dX11_meets_185 : decode cX11_meets 185 = .ok (.getfield 182, 3) := by decide +kernel
theorem dX11_meets_188 : decode cX11_meets 188 = .ok (.lload 5, 2) := by decide +kernel
theorem dX11_meets_190 : decode cX11_meets 190 = .ok (.lastore, 1) := by decide +kernel
theorem dX11_meets_191 : decode cX11_meets 191 = .ok (.aload_n 0, 1) := by decide +kernel
theorem dX11_meets_192 : decode cX11_meets 192 = .ok (.getfield 67, 3) := by decide +kernel
theorem dX11_meets_195 : decode cX11_meets 195 = .ok (.aload_n 0, 1) := by decide +kernel
theorem dX11_meets_196 : decode cX11_meets 196 = .ok (.getfield 182, 3) := by decide +kernel
theorem dX11_meets_199 : decode cX11_meets 199 = .ok (.lload 7, 2) := by decide +kernel
theorem dX11_meets_201 : decode cX11_meets 201 = .ok (.lastore, 1) := by decide +kernel
theorem dX11_meets_202 : decode cX11_meets 202 = .ok (.aload_n 0, 1) := by decide +kernel
theorem dX11_meets_203 : decode cX11_meets 203 = .ok (.getfield 70, 3) := by decide +kernel
theorem dX11_meets_206 : decode cX11_meets 206 = .ok (.aload_n 0, 1) := by decide +kernel
theorem dX11_meets_207 : decode cX11_meets 207 = .ok (.getfield 182, 3) := by decide +kernel
theorem dX11_meets_210 : decode cX11_meets 210 = .ok (.lload_n 3, 1) := by decide +kernel
theorem dX11_meets_211 : decode cX11_meets 211 = .ok (.lastore, 1) := by decide +kernel
theorem dX11_meets_212 : decode cX11_meets 212 = .ok (.aload_n 0, 1) := by decide +kernel
theorem dX11_meets_213 : decode cX11_meets 213 = .ok (.dup, 1) := by decide +kernel
theorem dX11_meets_214 : decode cX11_meets 214 = .ok (.getfield 182, 3) := by decide +kernel
theorem dX11_meets_217 : decode cX11_meets 217 = .ok (.iconst 1, 1) := by decide +kernel
theorem dX11_meets_218 : decode cX11_meets 218 = .ok (.iadd, 1) := by decide +kernel
theorem dX11_meets_219 : decode cX11_meets 219 = .ok (.putfield 182, 3) := by decide +kernel
theorem dX11_meets_222 : decode cX11_meets 222 = .ok (.return_, 1) := by decide +kernel
theorem dX11_order_0 : decode cX11_order 0 = .ok (.lload_n 0, 1) := by decide +kernel
theorem dX11_order_1 : decode cX11_order 1 = .ok (.lload 6, 2) := by decide +kernel
theorem dX11_order_3 : decode cX11_order 3 = .ok (.lmul, 1) := by decide +kernel
theorem dX11_order_4 : decode cX11_order 4 = .ok (.lload 4, 2) := by decide +kernel
theorem dX11_order_6 : decode cX11_order 6 = .ok (.lload_n 2, 1) := by decide +kernel
theorem dX11_order_7 : decode cX11_order 7 = .ok (.lmul, 1) := by decide +kernel
theorem dX11_order_8 : decode cX11_order 8 = .ok (.lsub, 1) := by decide +kernel
theorem dX11_order_9 : decode cX11_order 9 = .ok (.lstore 8, 2) := by decide +kernel
theorem dX11_order_11 : decode cX11_order 11 = .ok (.lload 8, 2) := by decide +kernel
theorem dX11_order_13 : decode cX11_order 13 = .ok (.lconst 0, 1) := by decide +kernel
theorem dX11_order_14 : decode cX11_order 14 = .ok (.lcmp, 1) := by decide +kernel
theorem dX11_order_15 : decode cX11_order 15 = .ok (.ifCond .le 7, 3) := by decide +kernel
theorem dX11_order_18 : decode cX11_order 18 = .ok (.iconst 1, 1) := by decide +kernel
theorem dX11_order_19 : decode cX11_order 19 = .ok (.goto 15, 3) := by decide +kernel
theorem dX11_order_22 : decode cX11_order 22 = .ok (.lload 8, 2) := by decide +kernel
theorem dX11_order_24 : decode cX11_order 24 = .ok (.lconst 0, 1) := by decide +kernel
theorem dX11_order_25 : decode cX11_order 25 = .ok (.lcmp, 1) := by decide +kernel
theorem dX11_order_26 : decode cX11_order 26 = .ok (.ifCond .ge 7, 3) := by decide +kernel
theorem dX11_order_29 : decode cX11_order 29 = .ok (.iconst (-1), 1) := by decide +kernel
theorem dX11_order_30 : decode cX11_order 30 = .ok (.goto 4, 3) := by decide +kernel
theorem dX11_order_33 : decode cX11_order 33 = .ok (.iconst 0, 1) := by decide +kernel
theorem dX11_order_34 : decode cX11_order 34 = .ok (.ireturn, 1) := by decide +kernel
theorem dX11_orderX_0 : decode cX11_orderX 0 = .ok (.aload_n 0, 1) := by decide +kernel
theorem dX11_orderX_1 : decode cX11_orderX 1 = .ok (.getfield 64, 3) := by decide +kernel
theorem dX11_orderX_4 : decode cX11_orderX 4 = .ok (.iload_n 1, 1) := by decide +kernel
theorem dX11_orderX_5 : decode cX11_orderX 5 = .ok (.laload, 1) := by decide +kernel
theorem dX11_orderX_6 : decode cX11_orderX 6 = .ok (.aload_n 0, 1) := by decide +kernel
theorem dX11_orderX_7 : decode cX11_orderX 7 = .ok (.getfield 70, 3) := by decide +kernel
theorem dX11_orderX_10 : decode cX11_orderX 10 = .ok (.iload_n 1, 1) := by decide +kernel
theorem dX11_orderX_11 : decode cX11_orderX 11 = .ok (.laload, 1) := by decide +kernel
theorem dX11_orderX_12 : decode cX11_orderX 12 = .ok (.aload_n 0, 1) := by decide +kernel
theorem dX11_orderX_13 : decode cX11_orderX 13 = .ok (.getfield 64, 3) := by decide +kernel
theorem dX11_orderX_16 : decode cX11_orderX 16 = .ok (.iload_n 2, 1) := by decide +kernel
theorem dX11_orderX_17 : decode cX11_orderX 17 = .ok (.laload, 1) := by decide +kernel
theorem dX11_orderX_18 : decode cX11_orderX 18 = .ok (.aload_n 0, 1) := by decide +kernel
theorem dX11_orderX_19 : decode cX11_orderX 19 = .ok (.getfield 70, 3) := by decide +kernel
theorem dX11_orderX_22 : decode cX11_orderX 22 = .ok (.iload_n 2, 1) := by decide +kernel
theorem dX11_orderX_23 : decode cX11_orderX 23 = .ok (.laload, 1) := by decide +kernel
theorem dX11_orderX_24 : decode cX11_orderX 24 = .ok (.invokestatic 189, 3) := by decide +kernel
theorem dX11_orderX_27 : decode cX11_orderX 27 = .ok (.ireturn, 1) := by decide +kernel
theorem dX11_orderY_0 : decode cX11_orderY 0 = .ok (.aload_n 0, 1) := by decide +kernel
theorem dX11_orderY_1 : decode cX11_orderY 1 = .ok (.getfield 67, 3) := by decide +kernel
theorem dX11_orderY_4 : decode cX11_orderY 4 = .ok (.iload_n 1, 1) := by decide +kernel
theorem dX11_orderY_5 : decode cX11_orderY 5 = .ok (.laload, 1) := by decide +kernel
theorem dX11_orderY_6 : decode cX11_orderY 6 = .ok (.aload_n 0, 1) := by decide +kernel
theorem dX11_orderY_7 : decode cX11_orderY 7 = .ok (.getfield 70, 3) := by decide +kernel
theorem dX11_orderY_10 : decode cX11_orderY 10 = .ok (.iload_n 1, 1) := by decide +kernel
theorem dX11_orderY_11 : decode cX11_orderY 11 = .ok (.laload, 1) := by decide +kernel
theorem dX11_orderY_12 : decode cX11_orderY 12 = .ok (.aload_n 0, 1) := by decide +kernel
theorem dX11_orderY_13 : decode cX11_orderY 13 = .ok (.getfield 67, 3) := by decide +kernel
theorem dX11_orderY_16 : decode cX11_orderY 16 = .ok (.iload_n 2, 1) := by decide +kernel
theorem dX11_orderY_17 : decode cX11_orderY 17 = .ok (.laload, 1) := by decide +kernel
theorem dX11_orderY_18 : decode cX11_orderY 18 = .ok (.aload_n 0, 1) := by decide +kernel
theorem dX11_orderY_19 : decode cX11_orderY 19 = .ok (.getfield 70, 3) := by decide +kernel
theorem dX11_orderY_22 : decode cX11_orderY 22 = .ok (.iload_n 2, 1) := by decide +kernel
theorem dX11_orderY_23 : decode cX11_orderY 23 = .ok (.laload, 1) := by decide +kernel
theorem dX11_orderY_24 : decode cX11_orderY 24 = .ok (.invokestatic 189, 3) := by decide +kernel
theorem dX11_orderY_27 : decode cX11_orderY 27 = .ok (.ireturn, 1) := by decide +kernel
theorem dX11_along_0 : decode cX11_along 0 = .ok (.aload_n 0, 1) := by decide +kernel
theorem dX11_along_1 : decode cX11_along 1 = .ok (.getfield 58, 3) := by decide +kernel
theorem dX11_along_4 : decode cX11_along 4 = .ok (.iload_n 1, 1) := by decide +kernel
theorem dX11_along_5 : decode cX11_along 5 = .ok (.laload, 1) := by decide +kernel
theorem dX11_along_6 : decode cX11_along 6 = .ok (.lconst 0, 1) := by decide +kernel
theorem dX11_along_7 : decode cX11_along 7 = .ok (.lcmp, 1) := by decide +kernel
theorem dX11_along_8 : decode cX11_along 8 = .ok (.ifCond .eq 29, 3) := by decide +kernel
theorem dX11_along_11 : decode cX11_along 11 = .ok (.aload_n 0, 1) := by decide +kernel
theorem dX11_along_12 : decode cX11_along 12 = .ok (.getfield 58, 3) := by decide +kernel
theorem dX11_along_15 : decode cX11_along 15 = .ok (.iload_n 1, 1) := by decide +kernel
theorem dX11_along_16 : decode cX11_along 16 = .ok (.laload, 1) := by decide +kernel
theorem dX11_along_17 : decode cX11_along 17 = .ok (.lconst 0, 1) := by decide +kernel
theorem dX11_along_18 : decode cX11_along 18 = .ok (.lcmp, 1) := by decide +kernel
theorem dX11_along_19 : decode cX11_along 19 = .ok (.ifCond .ge 7, 3) := by decide +kernel
theorem dX11_along_22 : decode cX11_along 22 = .ok (.iconst 1, 1) := by decide +kernel
theorem dX11_along_23 : decode cX11_along 23 = .ok (.goto 4, 3) := by decide +kernel
theorem dX11_along_26 : decode cX11_along 26 = .ok (.iconst (-1), 1) := by decide +kernel
theorem dX11_along_27 : decode cX11_along 27 = .ok (.aload_n 0, 1) := by decide +kernel
theorem dX11_along_28 : decode cX11_along 28 = .ok (.iload_n 2, 1) := by decide +kernel
theorem dX11_along_29 : decode cX11_along 29 = .ok (.iload_n 3, 1) := by decide +kernel
theorem dX11_along_30 : decode cX11_along 30 = .ok (.invokevirtual 193, 3) := by decide +kernel
theorem dX11_along_33 : decode cX11_along 33 = .ok (.imul, 1) := by decide +kernel
theorem dX11_along_34 : decode cX11_along 34 = .ok (.goto 26, 3) := by decide +kernel
theorem dX11_along_37 : decode cX11_along 37 = .ok (.aload_n 0, 1) := by decide +kernel
theorem dX11_along_38 : decode cX11_along 38 = .ok (.getfield 54, 3) := by decide +kernel
theorem dX11_along_41 : decode cX11_along 41 = .ok (.iload_n 1, 1) := by decide +kernel
theorem dX11_along_42 : decode cX11_along 42 = .ok (.laload, 1) := by decide +kernel
theorem dX11_along_43 : decode cX11_along 43 = .ok (.lconst 0, 1) := by decide +kernel
theorem dX11_along_44 : decode cX11_along 44 = .ok (.lcmp, 1) := by decide +kernel
theorem dX11_along_45 : decode cX11_along 45 = .ok (.ifCond .le 7, 3) := by decide +kernel
theorem dX11_along_48 : decode cX11_along 48 = .ok (.iconst 1, 1) := by decide +kernel
theorem dX11_along_49 : decode cX11_along 49 = .ok (.goto 4, 3) := by decide +kernel
theorem dX11_along_52 : decode cX11_along 52 = .ok (.iconst (-1), 1) := by decide +kernel
theorem dX11_along_53 : decode cX11_along 53 = .ok (.aload_n 0, 1) := by decide +kernel
theorem dX11_along_54 : decode cX11_along 54 = .ok (.iload_n 2, 1) := by decide +kernel
theorem dX11_along_55 : decode cX11_along 55 = .ok (.iload_n 3, 1) := by decide +kernel
theorem dX11_along_56 : decode cX11_along 56 = .ok (.invokevirtual 197, 3) := by decide +kernel
theorem dX11_along_59 : decode cX11_along 59 = .ok (.imul, 1) := by decide +kernel
theorem dX11_along_60 : decode cX11_along 60 = .ok (.ireturn, 1) := by decide +kernel
theorem dX11_endsOn_0 : decode cX11_endsOn 0 = .ok (.aload_n 0, 1) := by decide +kernel
theorem dX11_endsOn_1 : decode cX11_endsOn 1 = .ok (.iconst (-1), 1) := by decide +kernel
theorem dX11_endsOn_2 : decode cX11_endsOn 2 = .ok (.putfield 200, 3) := by decide +kernel
theorem dX11_endsOn_5 : decode cX11_endsOn 5 = .ok (.aload_n 0, 1) := by decide +kernel
theorem dX11_endsOn_6 : decode cX11_endsOn 6 = .ok (.iconst (-1), 1) := by decide +kernel
theorem dX11_endsOn_7 : decode cX11_endsOn 7 = .ok (.putfield 203, 3) := by decide +kernel
theorem dX11_endsOn_10 : decode cX11_endsOn 10 = .ok (.iconst 0, 1) := by decide +kernel
theorem dX11_endsOn_11 : decode cX11_endsOn 11 = .ok (.istore_n 2, 1) := by decide +kernel
theorem dX11_endsOn_12 : decode cX11_endsOn 12 = .ok (.iload_n 2, 1) := by decide +kernel
theorem dX11_endsOn_13 : decode cX11_endsOn 13 = .ok (.aload_n 0, 1) := by decide +kernel
theorem dX11_endsOn_14 : decode cX11_endsOn 14 = .ok (.getfield 182, 3) := by decide +kernel
theorem dX11_endsOn_17 : decode cX11_endsOn 17 = .ok (.if_icmp .ge 92, 3) := by decide +kernel
theorem dX11_endsOn_20 : decode cX11_endsOn 20 = .ok (.aload_n 0, 1) := by decide +kernel
theorem dX11_endsOn_21 : decode cX11_endsOn 21 = .ok (.iload_n 1, 1) := by decide +kernel
theorem dX11_endsOn_22 : decode cX11_endsOn 22 = .ok (.aload_n 0, 1) := by decide +kernel
theorem dX11_endsOn_23 : decode cX11_endsOn 23 = .ok (.getfield 64, 3) := by decide +kernel
theorem dX11_endsOn_26 : decode cX11_endsOn 26 = .ok (.iload_n 2, 1) := by decide +kernel
theorem dX11_endsOn_27 : decode cX11_endsOn 27 = .ok (.laload, 1) := by decide +kernel
theorem dX11_endsOn_28 : decode cX11_endsOn 28 = .ok (.aload_n 0, 1) := by decide +kernel
theorem dX11_endsOn_29 : decode cX11_endsOn 29 = .ok (.getfield 67, 3) := by decide +kernel
theorem dX11_endsOn_32 : decode cX11_endsOn 32 = .ok (.iload_n 2, 1) := by decide +kernel
theorem dX11_endsOn_33 : decode cX11_endsOn 33 = .ok (.laload, 1) := by decide +kernel
theorem dX11_endsOn_34 : decode cX11_endsOn 34 = .ok (.aload_n 0, 1) := by decide +kernel
theorem dX11_endsOn_35 : decode cX11_endsOn 35 = .ok (.getfield 70, 3) := by decide +kernel
theorem dX11_endsOn_38 : decode cX11_endsOn 38 = .ok (.iload_n 2, 1) := by decide +kernel
theorem dX11_endsOn_39 : decode cX11_endsOn 39 = .ok (.laload, 1) := by decide +kernel
theorem dX11_endsOn_40 : decode cX11_endsOn 40 = .ok (.invokevirtual 178, 3) := by decide +kernel
theorem dX11_endsOn_43 : decode cX11_endsOn 43 = .ok (.lconst 0, 1) := by decide +kernel
theorem dX11_endsOn_44 : decode cX11_endsOn 44 = .ok (.lcmp, 1) := by decide +kernel
theorem dX11_endsOn_45 : decode cX11_endsOn 45 = .ok (.ifCond .eq 6, 3) := by decide +kernel
theorem dX11_endsOn_48 : decode cX11_endsOn 48 = .ok (.goto 55, 3) := by decide +kernel
theorem dX11_endsOn_51 : decode cX11_endsOn 51 = .ok (.aload_n 0, 1) := by decide +kernel
theorem dX11_endsOn_52 : decode cX11_endsOn 52 = .ok (.getfield 200, 3) := by decide +kernel
theorem dX11_endsOn_55 : decode cX11_endsOn 55 = .ok (.iconst (-1), 1) := by decide +kernel
theorem dX11_endsOn_56 : decode cX11_endsOn 56 = .ok (.if_icmp .eq 16, 3) := by decide +kernel
theorem dX11_endsOn_59 : decode cX11_endsOn 59 = .ok (.aload_n 0, 1) := by decide +kernel
theorem dX11_endsOn_60 : decode cX11_endsOn 60 = .ok (.iload_n 1, 1) := by decide +kernel
theorem dX11_endsOn_61 : decode cX11_endsOn 61 = .ok (.iload_n 2, 1) := by decide +kernel
theorem dX11_endsOn_62 : decode cX11_endsOn 62 = .ok (.aload_n 0, 1) := by decide +kernel
theorem dX11_endsOn_63 : decode cX11_endsOn 63 = .ok (.getfield 200, 3) := by decide +kernel
theorem dX11_endsOn_66 : decode cX11_endsOn 66 = .ok (.invokevirtual 206, 3) := by decide +kernel
theorem dX11_endsOn_69 : decode cX11_endsOn 69 = .ok (.ifCond .ge 8, 3) := by decide +kernel
theorem dX11_endsOn_72 : decode cX11_endsOn 72 = .ok (.aload_n 0, 1) := by decide +kernel
theorem dX11_endsOn_73 : decode cX11_endsOn 73 = .ok (.iload_n 2, 1) := by decide +kernel
theorem dX11_endsOn_74 : decode cX11_endsOn 74 = .ok (.putfield 200, 3) := by decide +kernel
theorem dX11_endsOn_77 : decode cX11_endsOn 77 = .ok (.aload_n 0, 1) := by decide +kernel
theorem dX11_endsOn_78 : decode cX11_endsOn 78 = .ok (.getfield 203, 3) := by decide +kernel
theorem dX11_endsOn_81 : decode cX11_endsOn 81 = .ok (.iconst (-1), 1) := by decide +kernel
theorem dX11_endsOn_82 : decode cX11_endsOn 82 = .ok (.if_icmp .eq 16, 3) := by decide +kernel
theorem dX11_endsOn_85 : decode cX11_endsOn 85 = .ok (.aload_n 0, 1) := by decide +kernel
theorem dX11_endsOn_86 : decode cX11_endsOn 86 = .ok (.iload_n 1, 1) := by decide +kernel
theorem dX11_endsOn_87 : decode cX11_endsOn 87 = .ok (.iload_n 2, 1) := by decide +kernel
theorem dX11_endsOn_88 : decode cX11_endsOn 88 = .ok (.aload_n 0, 1) := by decide +kernel
theorem dX11_endsOn_89 : decode cX11_endsOn 89 = .ok (.getfield 203, 3) := by decide +kernel
theorem dX11_endsOn_92 : decode cX11_endsOn 92 = .ok (.invokevirtual 206, 3) := by decide +kernel
theorem dX11_endsOn_95 : decode cX11_endsOn 95 = .ok (.ifCond .le 8, 3) := by decide +kernel
theorem dX11_endsOn_98 : decode cX11_endsOn 98 = .ok (.aload_n 0, 1) := by decide +kernel
theorem dX11_endsOn_99 : decode cX11_endsOn 99 = .ok (.iload_n 2, 1) := by decide +kernel
theorem dX11_endsOn_100 : decode cX11_endsOn 100 = .ok (.putfield 203, 3) := by decide +kernel
theorem dX11_endsOn_103 : decode cX11_endsOn 103 = .ok (.iinc 2 1, 3) := by decide +kernel
theorem dX11_endsOn_106 : decode cX11_endsOn 106 = .ok (.goto (-94), 3) := by decide +kernel
theorem dX11_endsOn_109 : decode cX11_endsOn 109 = .ok (.return_, 1) := by decide +kernel
theorem dX11_isAhead_0 : decode cX11_isAhead 0 = .ok (.aload_n 0, 1) := by decide +kernel
theorem dX11_isAhead_1 : decode cX11_isAhead 1 = .ok (.iload_n 1, 1) := by decide +kernel
theorem dX11_isAhead_2 : decode cX11_isAhead 2 = .ok (.iload_n 2, 1) := by decide +kernel
theorem dX11_isAhead_3 : decode cX11_isAhead 3 = .ok (.invokevirtual 193, 3) := by decide +kernel
theorem dX11_isAhead_6 : decode cX11_isAhead 6 = .ok (.istore_n 3, 1) := by decide +kernel
theorem dX11_isAhead_7 : decode cX11_isAhead 7 = .ok (.iload_n 3, 1) := by decide +kernel
theorem dX11_isAhead_8 : decode cX11_isAhead 8 = .ok (.ifCond .lt 16, 3) := by decide +kernel
theorem dX11_isAhead_11 : decode cX11_isAhead 11 = .ok (.iload_n 3, 1) := by decide +kernel
theorem dX11_isAhead_12 : decode cX11_isAhead 12 = .ok (.ifCond .ne 16, 3) := by decide +kernel
theorem dX11_isAhead_15 : decode cX11_isAhead 15 = .ok (.aload_n 0, 1) := by decide +kernel
theorem dX11_isAhead_16 : decode cX11_isAhead 16 = .ok (.iload_n 1, 1) := by decide +kernel
theorem dX11_isAhead_17 : decode cX11_isAhead 17 = .ok (.iload_n 2, 1) := by decide +kernel
theorem dX11_isAhead_18 : decode cX11_isAhead 18 = .ok (.invokevirtual 197, 3) := by decide +kernel
theorem dX11_isAhead_21 : decode cX11_isAhead 21 = .ok (.ifCond .ge 7, 3) := by decide +kernel
theorem dX11_isAhead_24 : decode cX11_isAhead 24 = .ok (.iconst 1, 1) := by decide +kernel
theorem dX11_isAhead_25 : decode cX11_isAhead 25 = .ok (.goto 4, 3) := by decide +kernel
theorem dX11_isAhead_28 : decode cX11_isAhead 28 = .ok (.iconst 0, 1) := by decide +kernel
theorem dX11_isAhead_29 : decode cX11_isAhead 29 = .ok (.ireturn, 1) := by decide +kernel
theorem dX11_groundOf_0 : decode cX11_groundOf 0 = .ok (.aload_n 0, 1) := by decide +kernel
theorem dX11_groundOf_1 : decode cX11_groundOf 1 = .ok (.iload_n 1, 1) := by decide +kernel
theorem dX11_groundOf_2 : decode cX11_groundOf 2 = .ok (.iconst (-1), 1) := by decide +kernel
theorem dX11_groundOf_3 : decode cX11_groundOf 3 = .ok (.invokevirtual 210, 3) := by decide +kernel
theorem dX11_groundOf_6 : decode cX11_groundOf 6 = .ok (.aload_n 0, 1) := by decide +kernel
theorem dX11_groundOf_7 : decode cX11_groundOf 7 = .ok (.iconst 0, 1) := by decide +kernel
theorem dX11_groundOf_8 : decode cX11_groundOf 8 = .ok (.putfield 182, 3) := by decide +kernel
theorem dX11_groundOf_11 : decode cX11_groundOf 11 = .ok (.iconst 0, 1) := by decide +kernel
theorem dX11_groundOf_12 : decode cX11_groundOf 12 = .ok (.istore_n 2, 1) := by decide +kernel
theorem dX11_groundOf_13 : decode cX11_groundOf 13 = .ok (.iload_n 2, 1) := by decide +kernel
theorem dX11_groundOf_14 : decode cX11_groundOf 14 = .ok (.aload_n 0, 1) := by decide +kernel
theorem dX11_groundOf_15 : decode cX11_groundOf 15 = .ok (.getfield 163, 3) := by decide +kernel
theorem dX11_groundOf_18 : decode cX11_groundOf 18 = .ok (.if_icmp .ge 33, 3) := by decide +kernel
theorem dX11_groundOf_21 : decode cX11_groundOf 21 = .ok (.iload_n 2, 1) := by decide +kernel
theorem dX11_groundOf_22 : decode cX11_groundOf 22 = .ok (.iconst 1, 1) := by decide +kernel
theorem dX11_groundOf_23 : decode cX11_groundOf 23 = .ok (.iadd, 1) := by decide +kernel
theorem dX11_groundOf_24 : decode cX11_groundOf 24 = .ok (.istore_n 3, 1) := by decide +kernel
theorem dX11_groundOf_25 : decode cX11_groundOf 25 = .ok (.iload_n 3, 1) := by decide +kernel
theorem dX11_groundOf_26 : decode cX11_groundOf 26 = .ok (.aload_n 0, 1) := by decide +kernel
theorem dX11_groundOf_27 : decode cX11_groundOf 27 = .ok (.getfield 163, 3) := by decide +kernel
theorem dX11_groundOf_30 : decode cX11_groundOf 30 = .ok (.if_icmp .ge 15, 3) := by decide +kernel
theorem dX11_groundOf_33 : decode cX11_groundOf 33 = .ok (.aload_n 0, 1) := by decide +kernel
theorem dX11_groundOf_34 : decode cX11_groundOf 34 = .ok (.iload_n 2, 1) := by decide +kernel
theorem dX11_groundOf_35 : decode cX11_groundOf 35 = .ok (.iload_n 3, 1) := by decide +kernel
theorem dX11_groundOf_36 : decode cX11_groundOf 36 = .ok (.invokevirtual 213, 3) := by decide +kernel
theorem dX11_groundOf_39 : decode cX11_groundOf 39 = .ok (.iinc 3 1, 3) := by decide +kernel
theorem dX11_groundOf_42 : decode cX11_groundOf 42 = .ok (.goto (-17), 3) := by decide +kernel
theorem dX11_groundOf_45 : decode cX11_groundOf 45 = .ok (.iinc 2 1, 3) := by decide +kernel
theorem dX11_groundOf_48 : decode cX11_groundOf 48 = .ok (.goto (-35), 3) := by decide +kernel
theorem dX11_groundOf_51 : decode cX11_groundOf 51 = .ok (.aload_n 0, 1) := by decide +kernel
theorem dX11_groundOf_52 : decode cX11_groundOf 52 = .ok (.iconst 0, 1) := by decide +kernel
theorem dX11_groundOf_53 : decode cX11_groundOf 53 = .ok (.putfield 216, 3) := by decide +kernel
theorem dX11_groundOf_56 : decode cX11_groundOf 56 = .ok (.aload_n 0, 1) := by decide +kernel
theorem dX11_groundOf_57 : decode cX11_groundOf 57 = .ok (.getfield 182, 3) := by decide +kernel
theorem dX11_groundOf_60 : decode cX11_groundOf 60 = .ok (.ifCond .ne 4, 3) := by decide +kernel
theorem dX11_groundOf_63 : decode cX11_groundOf 63 = .ok (.return_, 1) := by decide +kernel
theorem dX11_groundOf_64 : decode cX11_groundOf 64 = .ok (.iconst 0, 1) := by decide +kernel
theorem dX11_groundOf_65 : decode cX11_groundOf 65 = .ok (.istore_n 2, 1) := by decide +kernel
theorem dX11_groundOf_66 : decode cX11_groundOf 66 = .ok (.iconst 0, 1) := by decide +kernel
theorem dX11_groundOf_67 : decode cX11_groundOf 67 = .ok (.istore_n 3, 1) := by decide +kernel
theorem dX11_groundOf_68 : decode cX11_groundOf 68 = .ok (.iload_n 3, 1) := by decide +kernel
theorem dX11_groundOf_69 : decode cX11_groundOf 69 = .ok (.aload_n 0, 1) := by decide +kernel
theorem dX11_groundOf_70 : decode cX11_groundOf 70 = .ok (.getfield 182, 3) := by decide +kernel
theorem dX11_groundOf_73 : decode cX11_groundOf 73 = .ok (.if_icmp .ge 27, 3) := by decide +kernel
theorem dX11_groundOf_76 : decode cX11_groundOf 76 = .ok (.aload_n 0, 1) := by decide +kernel
theorem dX11_groundOf_77 : decode cX11_groundOf 77 = .ok (.getfield 73, 3) := by decide +kernel
theorem dX11_groundOf_80 : decode cX11_groundOf 80 = .ok (.iload_n 3, 1) := by decide +kernel
theorem dX11_groundOf_81 : decode cX11_groundOf 81 = .ok (.iload_n 3, 1) := by decide +kernel
theorem dX11_groundOf_82 : decode cX11_groundOf 82 = .ok (.iastore, 1) := by decide +kernel
theorem dX11_groundOf_83 : decode cX11_groundOf 83 = .ok (.aload_n 0, 1) := by decide +kernel
theorem dX11_groundOf_84 : decode cX11_groundOf 84 = .ok (.iload_n 3, 1) := by decide +kernel
theorem dX11_groundOf_85 : decode cX11_groundOf 85 = .ok (.iload_n 2, 1) := by decide +kernel
theorem dX11_groundOf_86 : decode cX11_groundOf 86 = .ok (.invokevirtual 219, 3) := by decide +kernel
theorem dX11_groundOf_89 : decode cX11_groundOf 89 = .ok (.ifCond .eq 5, 3) := by decide +kernel
theorem dX11_groundOf_92 : decode cX11_groundOf 92 = .ok (.iload_n 3, 1) := by decide +kernel
theorem dX11_groundOf_93 : decode cX11_groundOf 93 = .ok (.istore_n 2, 1) := by decide +kernel
theorem dX11_groundOf_94 : decode cX11_groundOf 94 = .ok (.iinc 3 1, 3) := by decide +kernel
theorem dX11_groundOf_97 : decode cX11_groundOf 97 = .ok (.goto (-29), 3) := by decide +kernel
theorem dX11_groundOf_100 : decode cX11_groundOf 100 = .ok (.iconst 0, 1) := by decide +kernel
theorem dX11_groundOf_101 : decode cX11_groundOf 101 = .ok (.istore_n 3, 1) := by decide +kernel
theorem dX11_groundOf_102 : decode cX11_groundOf 102 = .ok (.iload_n 3, 1) := by decide +kernel
theorem dX11_groundOf_103 : decode cX11_groundOf 103 = .ok (.aload_n 0, 1) := by decide +kernel
theorem dX11_groundOf_104 : decode cX11_groundOf 104 = .ok (.getfield 163, 3) := by decide +kernel
theorem dX11_groundOf_107 : decode cX11_groundOf 107 = .ok (.if_icmp .ge 38, 3) := by decide +kernel
theorem dX11_groundOf_110 : decode cX11_groundOf 110 = .ok (.aload_n 0, 1) := by decide +kernel
theorem dX11_groundOf_111 : decode cX11_groundOf 111 = .ok (.iload_n 3, 1) := by decide +kernel
theorem dX11_groundOf_112 : decode cX11_groundOf 112 = .ok (.invokevirtual 222, 3) := by decide +kernel
theorem dX11_groundOf_115 : decode cX11_groundOf 115 = .ok (.aload_n 0, 1) := by decide +kernel
theorem dX11_groundOf_116 : decode cX11_groundOf 116 = .ok (.getfield 200, 3) := by decide +kernel
theorem dX11_groundOf_119 : decode cX11_groundOf 119 = .ok (.aload_n 0, 1) := by decide +kernel
theorem dX11_groundOf_120 : decode cX11_groundOf 120 = .ok (.getfield 203, 3) := by decide +kernel
theorem dX11_groundOf_123 : decode cX11_groundOf 123 = .ok (.if_icmp .eq 16, 3) := by decide +kernel
theorem dX11_groundOf_126 : decode cX11_groundOf 126 = .ok (.aload_n 0, 1) := by decide +kernel
theorem dX11_groundOf_127 : decode cX11_groundOf 127 = .ok (.getfield 73, 3) := by decide +kernel
theorem dX11_groundOf_130 : decode cX11_groundOf 130 = .ok (.aload_n 0, 1) := by decide +kernel
theorem dX11_groundOf_131 : decode cX11_groundOf 131 = .ok (.getfield 200, 3) := by decide +kernel
theorem dX11_groundOf_134 : decode cX11_groundOf 134 = .ok (.aload_n 0, 1) := by decide +kernel
theorem dX11_groundOf_135 : decode cX11_groundOf 135 = .ok (.getfield 203, 3) := by decide +kernel
theorem dX11_groundOf_138 : decode cX11_groundOf 138 = .ok (.iastore, 1) := by decide +kernel
theorem dX11_groundOf_139 : decode cX11_groundOf 139 = .ok (.iinc 3 1, 3) := by decide +kernel
theorem dX11_groundOf_142 : decode cX11_groundOf 142 = .ok (.goto (-40), 3) := by decide +kernel
theorem dX11_groundOf_145 : decode cX11_groundOf 145 = .ok (.iload_n 2, 1) := by decide +kernel
theorem dX11_groundOf_146 : decode cX11_groundOf 146 = .ok (.istore_n 3, 1) := by decide +kernel
theorem dX11_groundOf_147 : decode cX11_groundOf 147 = .ok (.aload_n 0, 1) := by decide +kernel
theorem dX11_groundOf_148 : decode cX11_groundOf 148 = .ok (.getfield 216, 3) := by decide +kernel
theorem dX11_groundOf_151 : decode cX11_groundOf 151 = .ok (.ifCond .eq 8, 3) := by decide +kernel
theorem dX11_groundOf_154 : decode cX11_groundOf 154 = .ok (.iload_n 3, 1) := by decide +kernel
theorem dX11_groundOf_155 : decode cX11_groundOf 155 = .ok (.iload_n 2, 1) := by decide +kernel
theorem dX11_groundOf_156 : decode cX11_groundOf 156 = .ok (.if_icmp .eq 33, 3) := by decide +kernel
theorem dX11_groundOf_159 : decode cX11_groundOf 159 = .ok (.aload_n 0, 1) := by decide +kernel
theorem dX11_groundOf_160 : decode cX11_groundOf 160 = .ok (.getfield 76, 3) := by decide +kernel
theorem dX11_groundOf_163 : decode cX11_groundOf 163 = .ok (.aload_n 0, 1) := by decide +kernel
theorem dX11_groundOf_164 : decode cX11_groundOf 164 = .ok (.getfield 216, 3) := by decide +kernel
theorem dX11_groundOf_167 : decode cX11_groundOf 167 = .ok (.iload_n 3, 1) := by decide +kernel
theorem dX11_groundOf_168 : decode cX11_groundOf 168 = .ok (.iastore, 1) := by decide +kernel
theorem dX11_groundOf_169 : decode cX11_groundOf 169 = .ok (.aload_n 0, 1) := by decide +kernel
theorem dX11_groundOf_170 : decode cX11_groundOf 170 = .ok (.dup, 1) := by decide +kernel
theorem dX11_groundOf_171 : decode cX11_groundOf 171 = .ok (.getfield 216, 3) := by decide +kernel
theorem dX11_groundOf_174 : decode cX11_groundOf 174 = .ok (.iconst 1, 1) := by decide +kernel
theorem dX11_groundOf_175 : decode cX11_groundOf 175 = .ok (.iadd, 1) := by decide +kernel
theorem dX11_groundOf_176 : decode cX11_groundOf 176 = .ok (.putfield 216, 3) := by decide +kernel
theorem dX11_groundOf_179 : decode cX11_groundOf 179 = .ok (.aload_n 0, 1) := by decide +kernel
theorem dX11_groundOf_180 : decode cX11_groundOf 180 = .ok (.getfield 73, 3) := by decide +kernel
theorem dX11_groundOf_183 : decode cX11_groundOf 183 = .ok (.iload_n 3, 1) := by decide +kernel
theorem dX11_groundOf_184 : decode cX11_groundOf 184 = .ok (.iaload, 1) := by decide +kernel
theorem dX11_groundOf_185 : decode cX11_groundOf 185 = .ok (.istore_n 3, 1) := by decide +kernel
theorem dX11_groundOf_186 : decode cX11_groundOf 186 = .ok (.goto (-39), 3) := by decide +kernel
theorem dX11_groundOf_189 : decode cX11_groundOf 189 = .ok (.return_, 1) := by decide +kernel
theorem dX11_corners_0 : decode cX11_corners 0 = .ok (.aload_n 0, 1) := by decide +kernel
theorem dX11_corners_1 : decode cX11_corners 1 = .ok (.iload_n 1, 1) := by decide +kernel
theorem dX11_corners_2 : decode cX11_corners 2 = .ok (.invokevirtual 124, 3) := by decide +kernel
theorem dX11_corners_5 : decode cX11_corners 5 = .ok (.ifCond .ne 5, 3) := by decide +kernel
theorem dX11_corners_8 : decode cX11_corners 8 = .ok (.iconst (-1), 1) := by decide +kernel
theorem dX11_corners_9 : decode cX11_corners 9 = .ok (.ireturn, 1) := by decide +kernel
theorem dX11_corners_10 : decode cX11_corners 10 = .ok (.aload_n 0, 1) := by decide +kernel
theorem dX11_corners_11 : decode cX11_corners 11 = .ok (.iload_n 1, 1) := by decide +kernel
theorem dX11_corners_12 : decode cX11_corners 12 = .ok (.invokevirtual 148, 3) := by decide +kernel
theorem dX11_corners_15 : decode cX11_corners 15 = .ok (.ifCond .ne 5, 3) := by decide +kernel
theorem dX11_corners_18 : decode cX11_corners 18 = .ok (.iconst 0, 1) := by decide +kernel
theorem dX11_corners_19 : decode cX11_corners 19 = .ok (.ireturn, 1) := by decide +kernel
theorem dX11_corners_20 : decode cX11_corners 20 = .ok (.aload_n 0, 1) := by decide +kernel
theorem dX11_corners_21 : decode cX11_corners 21 = .ok (.iload_n 1, 1) := by decide +kernel
theorem dX11_corners_22 : decode cX11_corners 22 = .ok (.invokevirtual 226, 3) := by decide +kernel
theorem dX11_corners_25 : decode cX11_corners 25 = .ok (.aload_n 0, 1) := by decide +kernel
theorem dX11_corners_26 : decode cX11_corners 26 = .ok (.getfield 216, 3) := by decide +kernel
theorem dX11_corners_29 : decode cX11_corners 29 = .ok (.ireturn, 1) := by decide +kernel
theorem dX11_common_0 : decode cX11_common 0 = .ok (.lload_n 0, 1) := by decide +kernel
theorem dX11_common_1 : decode cX11_common 1 = .ok (.lconst 0, 1) := by decide +kernel
theorem dX11_common_2 : decode cX11_common 2 = .ok (.lcmp, 1) := by decide +kernel
theorem dX11_common_3 : decode cX11_common 3 = .ok (.ifCond .ge 8, 3) := by decide +kernel
theorem dX11_common_6 : decode cX11_common 6 = .ok (.lload_n 0, 1) := by decide +kernel
theorem dX11_common_7 : decode cX11_common 7 = .ok (.lneg, 1) := by decide +kernel
theorem dX11_common_8 : decode cX11_common 8 = .ok (.goto 4, 3) := by decide +kernel
theorem dX11_common_11 : decode cX11_common 11 = .ok (.lload_n 0, 1) := by decide +kernel
theorem dX11_common_12 : decode cX11_common 12 = .ok (.lstore 4, 2) := by decide +kernel
theorem dX11_common_14 : decode cX11_common 14 = .ok (.lload_n 2, 1) := by decide +kernel
theorem dX11_common_15 : decode cX11_common 15 = .ok (.lconst 0, 1) := by decide +kernel
theorem dX11_common_16 : decode cX11_common 16 = .ok (.lcmp, 1) := by decide +kernel
theorem dX11_common_17 : decode cX11_common 17 = .ok (.ifCond .ge 8, 3) := by decide +kernel
theorem dX11_common_20 : decode cX11_common 20 = .ok (.lload_n 2, 1) := by decide +kernel
theorem dX11_common_21 : decode cX11_common 21 = .ok (.lneg, 1) := by decide +kernel
theorem dX11_common_22 : decode cX11_common 22 = .ok (.goto 4, 3) := by decide +kernel
theorem dX11_common_25 : decode cX11_common 25 = .ok (.lload_n 2, 1) := by decide +kernel
theorem dX11_common_26 : decode cX11_common 26 = .ok (.lstore 6, 2) := by decide +kernel
theorem dX11_common_28 : decode cX11_common 28 = .ok (.lload 6, 2) := by decide +kernel
theorem dX11_common_30 : decode cX11_common 30 = .ok (.lconst 0, 1) := by decide +kernel
theorem dX11_common_31 : decode cX11_common 31 = .ok (.lcmp, 1) := by decide +kernel
theorem dX11_common_32 : decode cX11_common 32 = .ok (.ifCond .eq 21, 3) := by decide +kernel
theorem dX11_common_35 : decode cX11_common 35 = .ok (.lload 4, 2) := by decide +kernel
theorem dX11_common_37 : decode cX11_common 37 = .ok (.lload 6, 2) := by decide +kernel
theorem dX11_common_39 : decode cX11_common 39 = .ok (.lrem, 1) := by decide +kernel
theorem dX11_common_40 : decode cX11_common 40 = .ok (.lstore 8, 2) := by decide +kernel
theorem dX11_common_42 : decode cX11_common 42 = .ok (.lload 6, 2) := by decide +kernel
theorem dX11_common_44 : decode cX11_common 44 = .ok (.lstore 4, 2) := by decide +kernel
theorem dX11_common_46 : decode cX11_common 46 = .ok (.lload 8, 2) := by decide +kernel
theorem dX11_common_48 : decode cX11_common 48 = .ok (.lstore 6, 2) := by decide +kernel
theorem dX11_common_50 : decode cX11_common 50 = .ok (.goto (-22), 3) := by decide +kernel
theorem dX11_common_53 : decode cX11_common 53 = .ok (.lload 4, 2) := by decide +kernel
theorem dX11_common_55 : decode cX11_common 55 = .ok (.lreturn, 1) := by decide +kernel
theorem dX11_lowest_0 : decode cX11_lowest 0 = .ok (.lload_n 0, 1) := by decide +kernel
theorem dX11_lowest_1 : decode cX11_lowest 1 = .ok (.lload_n 2, 1) := by decide +kernel
theorem dX11_lowest_2 : decode cX11_lowest 2 = .ok (.invokestatic 229, 3) := by decide +kernel
theorem dX11_lowest_5 : decode cX11_lowest 5 = .ok (.lstore 5, 2) := by decide +kernel
theorem dX11_lowest_7 : decode cX11_lowest 7 = .ok (.iload 4, 2) := by decide +kernel
theorem dX11_lowest_9 : decode cX11_lowest 9 = .ok (.ifCond .eq 10, 3) := by decide +kernel
theorem dX11_lowest_12 : decode cX11_lowest 12 = .ok (.lload_n 0, 1) := by decide +kernel
theorem dX11_lowest_13 : decode cX11_lowest 13 = .ok (.lload 5, 2) := by decide +kernel
theorem dX11_lowest_15 : decode cX11_lowest 15 = .ok (.ldiv, 1) := by decide +kernel
theorem dX11_lowest_16 : decode cX11_lowest 16 = .ok (.goto 7, 3) := by decide +kernel
theorem dX11_lowest_19 : decode cX11_lowest 19 = .ok (.lload_n 2, 1) := by decide +kernel
theorem dX11_lowest_20 : decode cX11_lowest 20 = .ok (.lload 5, 2) := by decide +kernel
theorem dX11_lowest_22 : decode cX11_lowest 22 = .ok (.ldiv, 1) := by decide +kernel
theorem dX11_lowest_23 : decode cX11_lowest 23 = .ok (.lreturn, 1) := by decide +kernel
theorem dX11_told_0 : decode cX11_told 0 = .ok (.iload_n 2, 1) := by decide +kernel
theorem dX11_told_1 : decode cX11_told 1 = .ok (.iconst 2, 1) := by decide +kernel
theorem dX11_told_2 : decode cX11_told 2 = .ok (.if_icmp .ge 12, 3) := by decide +kernel
theorem dX11_told_5 : decode cX11_told 5 = .ok (.aload_n 0, 1) := by decide +kernel
theorem dX11_told_6 : decode cX11_told 6 = .ok (.getfield 64, 3) := by decide +kernel
theorem dX11_told_9 : decode cX11_told 9 = .ok (.iload_n 1, 1) := by decide +kernel
theorem dX11_told_10 : decode cX11_told 10 = .ok (.laload, 1) := by decide +kernel
theorem dX11_told_11 : decode cX11_told 11 = .ok (.goto 9, 3) := by decide +kernel
theorem dX11_told_14 : decode cX11_told 14 = .ok (.aload_n 0, 1) := by decide +kernel
theorem dX11_told_15 : decode cX11_told 15 = .ok (.getfield 67, 3) := by decide +kernel
theorem dX11_told_18 : decode cX11_told 18 = .ok (.iload_n 1, 1) := by decide +kernel
theorem dX11_told_19 : decode cX11_told 19 = .ok (.laload, 1) := by decide +kernel
theorem dX11_told_20 : decode cX11_told 20 = .ok (.aload_n 0, 1) := by decide +kernel
theorem dX11_told_21 : decode cX11_told 21 = .ok (.getfield 70, 3) := by decide +kernel
theorem dX11_told_24 : decode cX11_told 24 = .ok (.iload_n 1, 1) := by decide +kernel
theorem dX11_told_25 : decode cX11_told 25 = .ok (.laload, 1) := by decide +kernel
theorem dX11_told_26 : decode cX11_told 26 = .ok (.iload_n 2, 1) := by decide +kernel
theorem dX11_told_27 : decode cX11_told 27 = .ok (.iconst 2, 1) := by decide +kernel
theorem dX11_told_28 : decode cX11_told 28 = .ok (.irem, 1) := by decide +kernel
theorem dX11_told_29 : decode cX11_told 29 = .ok (.ifCond .ne 7, 3) := by decide +kernel
theorem dX11_told_32 : decode cX11_told 32 = .ok (.iconst 1, 1) := by decide +kernel
theorem dX11_told_33 : decode cX11_told 33 = .ok (.goto 4, 3) := by decide +kernel
theorem dX11_told_36 : decode cX11_told 36 = .ok (.iconst 0, 1) := by decide +kernel
theorem dX11_told_37 : decode cX11_told 37 = .ok (.invokestatic 233, 3) := by decide +kernel
theorem dX11_told_40 : decode cX11_told 40 = .ok (.lreturn, 1) := by decide +kernel
theorem dX11_corner_0 : decode cX11_corner 0 = .ok (.aload_n 0, 1) := by decide +kernel
theorem dX11_corner_1 : decode cX11_corner 1 = .ok (.iload_n 1, 1) := by decide +kernel
theorem dX11_corner_2 : decode cX11_corner 2 = .ok (.invokevirtual 148, 3) := by decide +kernel
theorem dX11_corner_5 : decode cX11_corner 5 = .ok (.ifCond .eq 12, 3) := by decide +kernel
theorem dX11_corner_8 : decode cX11_corner 8 = .ok (.iload_n 3, 1) := by decide +kernel
theorem dX11_corner_9 : decode cX11_corner 9 = .ok (.ifCond .lt 8, 3) := by decide +kernel
theorem dX11_corner_12 : decode cX11_corner 12 = .ok (.iload_n 3, 1) := by decide +kernel
theorem dX11_corner_13 : decode cX11_corner 13 = .ok (.iconst 3, 1) := by decide +kernel
theorem dX11_corner_14 : decode cX11_corner 14 = .ok (.if_icmp .le 7, 3) := by decide +kernel
theorem dX11_corner_17 : decode cX11_corner 17 = .ok (.ldc2_w 176, 3) := by decide +kernel
theorem dX11_corner_20 : decode cX11_corner 20 = .ok (.lreturn, 1) := by decide +kernel
theorem dX11_corner_21 : decode cX11_corner 21 = .ok (.aload_n 0, 1) := by decide +kernel
theorem dX11_corner_22 : decode cX11_corner 22 = .ok (.iload_n 1, 1) := by decide +kernel
theorem dX11_corner_23 : decode cX11_corner 23 = .ok (.invokevirtual 226, 3) := by decide +kernel
theorem dX11_corner_26 : decode cX11_corner 26 = .ok (.iload_n 2, 1) := by decide +kernel
theorem dX11_corner_27 : decode cX11_corner 27 = .ok (.ifCond .lt 25, 3) := by decide +kernel
theorem dX11_corner_30 : decode cX11_corner 30 = .ok (.iload_n 2, 1) := by decide +kernel
theorem dX11_corner_31 : decode cX11_corner 31 = .ok (.aload_n 0, 1) := by decide +kernel
theorem dX11_corner_32 : decode cX11_corner 32 = .ok (.getfield 216, 3) := by decide +kernel
theorem dX11_corner_35 : decode cX11_corner 35 = .ok (.if_icmp .ge 17, 3) := by decide +kernel
theorem dX11_corner_38 : decode cX11_corner 38 = .ok (.aload_n 0, 1) := by decide +kernel
theorem dX11_corner_39 : decode cX11_corner 39 = .ok (.aload_n 0, 1) := by decide +kernel
theorem dX11_corner_40 : decode cX11_corner 40 = .ok (.getfield 76, 3) := by decide +kernel
theorem dX11_corner_43 : decode cX11_corner 43 = .ok (.iload_n 2, 1) := by decide +kernel
theorem dX11_corner_44 : decode cX11_corner 44 = .ok (.iaload, 1) := by decide +kernel
theorem dX11_corner_45 : decode cX11_corner 45 = .ok (.iload_n 3, 1) := by decide +kernel
theorem dX11_corner_46 : decode cX11_corner 46 = .ok (.invokevirtual 237, 3) := by decide +kernel
theorem dX11_corner_49 : decode cX11_corner 49 = .ok (.goto 6, 3) := by decide +kernel
theorem dX11_corner_52 : decode cX11_corner 52 = .ok (.ldc2_w 176, 3) := by decide +kernel
theorem dX11_corner_55 : decode cX11_corner 55 = .ok (.lreturn, 1) := by decide +kernel
theorem dX11_borderOf_0 : decode cX11_borderOf 0 = .ok (.aload_n 0, 1) := by decide +kernel
theorem dX11_borderOf_1 : decode cX11_borderOf 1 = .ok (.iload_n 1, 1) := by decide +kernel
theorem dX11_borderOf_2 : decode cX11_borderOf 2 = .ok (.invokevirtual 148, 3) := by decide +kernel
theorem dX11_borderOf_5 : decode cX11_borderOf 5 = .ok (.ifCond .eq 11, 3) := by decide +kernel
theorem dX11_borderOf_8 : decode cX11_borderOf 8 = .ok (.aload_n 0, 1) := by decide +kernel
theorem dX11_borderOf_9 : decode cX11_borderOf 9 = .ok (.iload_n 2, 1) := by decide +kernel
theorem dX11_borderOf_10 : decode cX11_borderOf 10 = .ok (.invokevirtual 148, 3) := by decide +kernel
theorem dX11_borderOf_13 : decode cX11_borderOf 13 = .ok (.ifCond .ne 5, 3) := by decide +kernel
theorem dX11_borderOf_16 : decode cX11_borderOf 16 = .ok (.iconst 0, 1) := by decide +kernel
theorem dX11_borderOf_17 : decode cX11_borderOf 17 = .ok (.ireturn, 1) := by decide +kernel
theorem dX11_borderOf_18 : decode cX11_borderOf 18 = .ok (.aload_n 0, 1) := by decide +kernel
theorem dX11_borderOf_19 : decode cX11_borderOf 19 = .ok (.iload_n 1, 1) := by decide +kernel
theorem dX11_borderOf_20 : decode cX11_borderOf 20 = .ok (.iload_n 2, 1) := by decide +kernel
theorem dX11_borderOf_21 : decode cX11_borderOf 21 = .ok (.invokevirtual 210, 3) := by decide +kernel
theorem dX11_borderOf_24 : decode cX11_borderOf 24 = .ok (.aload_n 0, 1) := by decide +kernel
theorem dX11_borderOf_25 : decode cX11_borderOf 25 = .ok (.iconst 0, 1) := by decide +kernel
theorem dX11_borderOf_26 : decode cX11_borderOf 26 = .ok (.putfield 182, 3) := by decide +kernel
theorem dX11_borderOf_29 : decode cX11_borderOf 29 = .ok (.iconst 1, 1) := by decide +kernel
theorem dX11_borderOf_30 : decode cX11_borderOf 30 = .ok (.istore_n 3, 1) := by decide +kernel
theorem dX11_borderOf_31 : decode cX11_borderOf 31 = .ok (.iload_n 3, 1) := by decide +kernel
theorem dX11_borderOf_32 : decode cX11_borderOf 32 = .ok (.aload_n 0, 1) := by decide +kernel
theorem dX11_borderOf_33 : decode cX11_borderOf 33 = .ok (.getfield 163, 3) := by decide +kernel
theorem dX11_borderOf_36 : decode cX11_borderOf 36 = .ok (.if_icmp .ge 15, 3) := by decide +kernel
theorem dX11_borderOf_39 : decode cX11_borderOf 39 = .ok (.aload_n 0, 1) := by decide +kernel
theorem dX11_borderOf_40 : decode cX11_borderOf 40 = .ok (.iconst 0, 1) := by decide +kernel
theorem dX11_borderOf_41 : decode cX11_borderOf 41 = .ok (.iload_n 3, 1) := by decide +kernel
theorem dX11_borderOf_42 : decode cX11_borderOf 42 = .ok (.invokevirtual 213, 3) := by decide +kernel
theorem dX11_borderOf_45 : decode cX11_borderOf 45 = .ok (.iinc 3 1, 3) := by decide +kernel
theorem dX11_borderOf_48 : decode cX11_borderOf 48 = .ok (.goto (-17), 3) := by decide +kernel
theorem dX11_borderOf_51 : decode cX11_borderOf 51 = .ok (.aload_n 0, 1) := by decide +kernel
theorem dX11_borderOf_52 : decode cX11_borderOf 52 = .ok (.iconst (-1), 1) := by decide +kernel
theorem dX11_borderOf_53 : decode cX11_borderOf 53 = .ok (.putfield 200, 3) := by decide +kernel
theorem dX11_borderOf_56 : decode cX11_borderOf 56 = .ok (.aload_n 0, 1) := by decide +kernel
theorem dX11_borderOf_57 : decode cX11_borderOf 57 = .ok (.iconst (-1), 1) := by decide +kernel
theorem dX11_borderOf_58 : decode cX11_borderOf 58 = .ok (.putfield 203, 3) := by decide +kernel
theorem dX11_borderOf_61 : decode cX11_borderOf 61 = .ok (.iconst 0, 1) := by decide +kernel
theorem dX11_borderOf_62 : decode cX11_borderOf 62 = .ok (.istore_n 3, 1) := by decide +kernel
theorem dX11_borderOf_63 : decode cX11_borderOf 63 = .ok (.iload_n 3, 1) := by decide +kernel
theorem dX11_borderOf_64 : decode cX11_borderOf 64 = .ok (.aload_n 0, 1) := by decide +kernel
theorem dX11_borderOf_65 : decode cX11_borderOf 65 = .ok (.getfield 182, 3) := by decide +kernel
theorem dX11_borderOf_68 : decode cX11_borderOf 68 = .ok (.if_icmp .ge 59, 3) := by decide +kernel
theorem dX11_borderOf_71 : decode cX11_borderOf 71 = .ok (.aload_n 0, 1) := by decide +kernel
theorem dX11_borderOf_72 : decode cX11_borderOf 72 = .ok (.getfield 200, 3) := by decide +kernel
theorem dX11_borderOf_75 : decode cX11_borderOf 75 = .ok (.iconst (-1), 1) := by decide +kernel
theorem dX11_borderOf_76 : decode cX11_borderOf 76 = .ok (.if_icmp .eq 15, 3) := by decide +kernel
theorem dX11_borderOf_79 : decode cX11_borderOf 79 = .ok (.aload_n 0, 1) := by decide +kernel
theorem dX11_borderOf_80 : decode cX11_borderOf 80 = .ok (.iload_n 3, 1) := by decide +kernel
theorem dX11_borderOf_81 : decode cX11_borderOf 81 = .ok (.aload_n 0, 1) := by decide +kernel
theorem dX11_borderOf_82 : decode cX11_borderOf 82 = .ok (.getfield 200, 3) := by decide +kernel
theorem dX11_borderOf_85 : decode cX11_borderOf 85 = .ok (.invokevirtual 219, 3) := by decide +kernel
theorem dX11_borderOf_88 : decode cX11_borderOf 88 = .ok (.ifCond .eq 8, 3) := by decide +kernel
theorem dX11_borderOf_91 : decode cX11_borderOf 91 = .ok (.aload_n 0, 1) := by decide +kernel
theorem dX11_borderOf_92 : decode cX11_borderOf 92 = .ok (.iload_n 3, 1) := by decide +kernel
theorem dX11_borderOf_93 : decode cX11_borderOf 93 = .ok (.putfield 200, 3) := by decide +kernel
theorem dX11_borderOf_96 : decode cX11_borderOf 96 = .ok (.aload_n 0, 1) := by decide +kernel
theorem dX11_borderOf_97 : decode cX11_borderOf 97 = .ok (.getfield 203, 3) := by decide +kernel
theorem dX11_borderOf_100 : decode cX11_borderOf 100 = .ok (.iconst (-1), 1) := by decide +kernel
theorem dX11_borderOf_101 : decode cX11_borderOf 101 = .ok (.if_icmp .eq 15, 3) := by decide +kernel
theorem dX11_borderOf_104 : decode cX11_borderOf 104 = .ok (.aload_n 0, 1) := by decide +kernel
theorem dX11_borderOf_105 : decode cX11_borderOf 105 = .ok (.aload_n 0, 1) := by decide +kernel
theorem dX11_borderOf_106 : decode cX11_borderOf 106 = .ok (.getfield 203, 3) := by decide +kernel
theorem dX11_borderOf_109 : decode cX11_borderOf 109 = .ok (.iload_n 3, 1) := by decide +kernel
theorem dX11_borderOf_110 : decode cX11_borderOf 110 = .ok (.invokevirtual 219, 3) := by decide +kernel
theorem dX11_borderOf_113 : decode cX11_borderOf 113 = .ok (.ifCond .eq 8, 3) := by decide +kernel
theorem dX11_borderOf_116 : decode cX11_borderOf 116 = .ok (.aload_n 0, 1) := by decide +kernel
theorem dX11_borderOf_117 : decode cX11_borderOf 117 = .ok (.iload_n 3, 1) := by decide +kernel
theorem dX11_borderOf_118 : decode cX11_borderOf 118 = .ok (.putfield 203, 3) := by decide +kernel
theorem dX11_borderOf_121 : decode cX11_borderOf 121 = .ok (.iinc 3 1, 3) := by decide +kernel
theorem dX11_borderOf_124 : decode cX11_borderOf 124 = .ok (.goto (-61), 3) := by decide +kernel
theorem dX11_borderOf_127 : decode cX11_borderOf 127 = .ok (.aload_n 0, 1) := by decide +kernel
theorem dX11_borderOf_128 : decode cX11_borderOf 128 = .ok (.getfield 200, 3) := by decide +kernel
theorem dX11_borderOf_131 : decode cX11_borderOf 131 = .ok (.iconst (-1), 1) := by decide +kernel
theorem dX11_borderOf_132 : decode cX11_borderOf 132 = .ok (.if_icmp .ne 7, 3) := by decide +kernel
theorem dX11_borderOf_135 : decode cX11_borderOf 135 = .ok (.iconst 0, 1) := by decide +kernel
theorem dX11_borderOf_136 : decode cX11_borderOf 136 = .ok (.goto 19, 3) := by decide +kernel
theorem dX11_borderOf_139 : decode cX11_borderOf 139 = .ok (.aload_n 0, 1) := by decide +kernel
theorem dX11_borderOf_140 : decode cX11_borderOf 140 = .ok (.getfield 200, 3) := by decide +kernel
theorem dX11_borderOf_143 : decode cX11_borderOf 143 = .ok (.aload_n 0, 1) := by decide +kernel
theorem dX11_borderOf_144 : decode cX11_borderOf 144 = .ok (.getfield 203, 3) := by decide +kernel
theorem dX11_borderOf_147 : decode cX11_borderOf 147 = .ok (.if_icmp .ne 7, 3) := by decide +kernel
theorem dX11_borderOf_150 : decode cX11_borderOf 150 = .ok (.iconst 1, 1) := by decide +kernel
theorem dX11_borderOf_151 : decode cX11_borderOf 151 = .ok (.goto 4, 3) := by decide +kernel
theorem dX11_borderOf_154 : decode cX11_borderOf 154 = .ok (.iconst 2, 1) := by decide +kernel
theorem dX11_borderOf_155 : decode cX11_borderOf 155 = .ok (.ireturn, 1) := by decide +kernel
theorem dX11_areTwo_0 : decode cX11_areTwo 0 = .ok (.aload_n 0, 1) := by decide +kernel
theorem dX11_areTwo_1 : decode cX11_areTwo 1 = .ok (.iload_n 1, 1) := by decide +kernel
theorem dX11_areTwo_2 : decode cX11_areTwo 2 = .ok (.invokevirtual 124, 3) := by decide +kernel
theorem dX11_areTwo_5 : decode cX11_areTwo 5 = .ok (.ifCond .eq 20, 3) := by decide +kernel
theorem dX11_areTwo_8 : decode cX11_areTwo 8 = .ok (.aload_n 0, 1) := by decide +kernel
theorem dX11_areTwo_9 : decode cX11_areTwo 9 = .ok (.iload_n 2, 1) := by decide +kernel
theorem dX11_areTwo_10 : decode cX11_areTwo 10 = .ok (.invokevirtual 124, 3) := by decide +kernel
theorem dX11_areTwo_13 : decode cX11_areTwo 13 = .ok (.ifCond .eq 12, 3) := by decide +kernel
theorem dX11_areTwo_16 : decode cX11_areTwo 16 = .ok (.iload_n 1, 1) := by decide +kernel
theorem dX11_areTwo_17 : decode cX11_areTwo 17 = .ok (.iload_n 2, 1) := by decide +kernel
theorem dX11_areTwo_18 : decode cX11_areTwo 18 = .ok (.if_icmp .eq 7, 3) := by decide +kernel
theorem dX11_areTwo_21 : decode cX11_areTwo 21 = .ok (.iconst 1, 1) := by decide +kernel
theorem dX11_areTwo_22 : decode cX11_areTwo 22 = .ok (.goto 4, 3) := by decide +kernel
theorem dX11_areTwo_25 : decode cX11_areTwo 25 = .ok (.iconst 0, 1) := by decide +kernel
theorem dX11_areTwo_26 : decode cX11_areTwo 26 = .ok (.ireturn, 1) := by decide +kernel
theorem dX11_beside_0 : decode cX11_beside 0 = .ok (.aload_n 0, 1) := by decide +kernel
theorem dX11_beside_1 : decode cX11_beside 1 = .ok (.iload_n 1, 1) := by decide +kernel
theorem dX11_beside_2 : decode cX11_beside 2 = .ok (.iload_n 2, 1) := by decide +kernel
theorem dX11_beside_3 : decode cX11_beside 3 = .ok (.invokevirtual 241, 3) := by decide +kernel
theorem dX11_beside_6 : decode cX11_beside 6 = .ok (.ifCond .eq 21, 3) := by decide +kernel
theorem dX11_beside_9 : decode cX11_beside 9 = .ok (.aload_n 0, 1) := by decide +kernel
theorem dX11_beside_10 : decode cX11_beside 10 = .ok (.iload_n 1, 1) := by decide +kernel
theorem dX11_beside_11 : decode cX11_beside 11 = .ok (.iload_n 2, 1) := by decide +kernel
theorem dX11_beside_12 : decode cX11_beside 12 = .ok (.invokevirtual 244, 3) := by decide +kernel
theorem dX11_beside_15 : decode cX11_beside 15 = .ok (.iconst 2, 1) := by decide +kernel
theorem dX11_beside_16 : decode cX11_beside 16 = .ok (.if_icmp .ne 7, 3) := by decide +kernel
theorem dX11_beside_19 : decode cX11_beside 19 = .ok (.iconst 1, 1) := by decide +kernel
theorem dX11_beside_20 : decode cX11_beside 20 = .ok (.goto 8, 3) := by decide +kernel
theorem dX11_beside_23 : decode cX11_beside 23 = .ok (.iconst 0, 1) := by decide +kernel
theorem dX11_beside_24 : decode cX11_beside 24 = .ok (.goto 4, 3) := by decide +kernel
theorem dX11_beside_27 : decode cX11_beside 27 = .ok (.iconst (-1), 1) := by decide +kernel
theorem dX11_beside_28 : decode cX11_beside 28 = .ok (.ireturn, 1) := by decide +kernel
theorem dX11_border_0 : decode cX11_border 0 = .ok (.aload_n 0, 1) := by decide +kernel
theorem dX11_border_1 : decode cX11_border 1 = .ok (.iload_n 1, 1) := by decide +kernel
theorem dX11_border_2 : decode cX11_border 2 = .ok (.iload_n 2, 1) := by decide +kernel
theorem dX11_border_3 : decode cX11_border 3 = .ok (.invokevirtual 241, 3) := by decide +kernel
