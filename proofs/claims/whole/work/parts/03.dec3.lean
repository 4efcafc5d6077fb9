theorem dX10_rectangle_34 : decode cX10_rectangle 34 = .ok (.iconst 1, 1) := by decide +kernel
theorem dX10_rectangle_35 : decode cX10_rectangle 35 = .ok (.ireturn, 1) := by decide +kernel
theorem dX10_season_0 : decode cX10_season 0 = .ok (.iload_n 1, 1) := by decide +kernel
theorem dX10_season_1 : decode cX10_season 1 = .ok (.ifCond .lt 8, 3) := by decide +kernel
theorem dX10_season_4 : decode cX10_season 4 = .ok (.iload_n 1, 1) := by decide +kernel
theorem dX10_season_5 : decode cX10_season 5 = .ok (.iconst 4, 1) := by decide +kernel
theorem dX10_season_6 : decode cX10_season 6 = .ok (.if_icmp .lt 5, 3) := by decide +kernel
theorem dX10_season_9 : decode cX10_season 9 = .ok (.iconst (-1), 1) := by decide +kernel
theorem dX10_season_10 : decode cX10_season 10 = .ok (.ireturn, 1) := by decide +kernel
theorem dX10_season_11 : decode cX10_season 11 = .ok (.aload_n 0, 1) := by decide +kernel
theorem dX10_season_12 : decode cX10_season 12 = .ok (.getfield 10, 3) := by decide +kernel
theorem dX10_season_15 : decode cX10_season 15 = .ok (.getfield 89, 3) := by decide +kernel
theorem dX10_season_18 : decode cX10_season 18 = .ok (.istore_n 2, 1) := by decide +kernel
theorem dX10_season_19 : decode cX10_season 19 = .ok (.aload_n 0, 1) := by decide +kernel
theorem dX10_season_20 : decode cX10_season 20 = .ok (.getfield 10, 3) := by decide +kernel
theorem dX10_season_23 : decode cX10_season 23 = .ok (.iload_n 1, 1) := by decide +kernel
theorem dX10_season_24 : decode cX10_season 24 = .ok (.invokevirtual 93, 3) := by decide +kernel
theorem dX10_season_27 : decode cX10_season 27 = .ok (.iload_n 2, 1) := by decide +kernel
theorem dX10_season_28 : decode cX10_season 28 = .ok (.ireturn, 1) := by decide +kernel
theorem dX10_sink_0 : decode cX10_sink 0 = .ok (.aload_n 0, 1) := by decide +kernel
theorem dX10_sink_1 : decode cX10_sink 1 = .ok (.getfield 10, 3) := by decide +kernel
theorem dX10_sink_4 : decode cX10_sink 4 = .ok (.iload_n 1, 1) := by decide +kernel
theorem dX10_sink_5 : decode cX10_sink 5 = .ok (.iload_n 2, 1) := by decide +kernel
theorem dX10_sink_6 : decode cX10_sink 6 = .ok (.iload_n 3, 1) := by decide +kernel
theorem dX10_sink_7 : decode cX10_sink 7 = .ok (.iload 4, 2) := by decide +kernel
theorem dX10_sink_9 : decode cX10_sink 9 = .ok (.invokevirtual 97, 3) := by decide +kernel
theorem dX10_sink_12 : decode cX10_sink 12 = .ok (.ifCond .ne 5, 3) := by decide +kernel
theorem dX10_sink_15 : decode cX10_sink 15 = .ok (.iconst (-1), 1) := by decide +kernel
theorem dX10_sink_16 : decode cX10_sink 16 = .ok (.ireturn, 1) := by decide +kernel
theorem dX10_sink_17 : decode cX10_sink 17 = .ok (.aload_n 0, 1) := by decide +kernel
theorem dX10_sink_18 : decode cX10_sink 18 = .ok (.getfield 10, 3) := by decide +kernel
theorem dX10_sink_21 : decode cX10_sink 21 = .ok (.iload_n 1, 1) := by decide +kernel
theorem dX10_sink_22 : decode cX10_sink 22 = .ok (.iload_n 2, 1) := by decide +kernel
theorem dX10_sink_23 : decode cX10_sink 23 = .ok (.invokevirtual 101, 3) := by decide +kernel
theorem dX10_sink_26 : decode cX10_sink 26 = .ok (.ifCond .eq 6, 3) := by decide +kernel
theorem dX10_sink_29 : decode cX10_sink 29 = .ok (.bipush (-2), 2) := by decide +kernel
theorem dX10_sink_31 : decode cX10_sink 31 = .ok (.ireturn, 1) := by decide +kernel
theorem dX10_sink_32 : decode cX10_sink 32 = .ok (.aload_n 0, 1) := by decide +kernel
theorem dX10_sink_33 : decode cX10_sink 33 = .ok (.getfield 10, 3) := by decide +kernel
theorem dX10_sink_36 : decode cX10_sink 36 = .ok (.invokevirtual 104, 3) := by decide +kernel
theorem dX10_sink_39 : decode cX10_sink 39 = .ok (.istore 5, 2) := by decide +kernel
theorem dX10_sink_41 : decode cX10_sink 41 = .ok (.iload 5, 2) := by decide +kernel
theorem dX10_sink_43 : decode cX10_sink 43 = .ok (.iconst (-1), 1) := by decide +kernel
theorem dX10_sink_44 : decode cX10_sink 44 = .ok (.if_icmp .ne 6, 3) := by decide +kernel
theorem dX10_sink_47 : decode cX10_sink 47 = .ok (.bipush (-3), 2) := by decide +kernel
theorem dX10_sink_49 : decode cX10_sink 49 = .ok (.ireturn, 1) := by decide +kernel
theorem dX10_sink_50 : decode cX10_sink 50 = .ok (.aload_n 0, 1) := by decide +kernel
theorem dX10_sink_51 : decode cX10_sink 51 = .ok (.getfield 19, 3) := by decide +kernel
theorem dX10_sink_54 : decode cX10_sink 54 = .ok (.aload_n 0, 1) := by decide +kernel
theorem dX10_sink_55 : decode cX10_sink 55 = .ok (.getfield 10, 3) := by decide +kernel
theorem dX10_sink_58 : decode cX10_sink 58 = .ok (.invokevirtual 82, 3) := by decide +kernel
theorem dX10_sink_61 : decode cX10_sink 61 = .ok (.aload_n 0, 1) := by decide +kernel
theorem dX10_sink_62 : decode cX10_sink 62 = .ok (.getfield 10, 3) := by decide +kernel
theorem dX10_sink_65 : decode cX10_sink 65 = .ok (.iload 5, 2) := by decide +kernel
theorem dX10_sink_67 : decode cX10_sink 67 = .ok (.iload_n 1, 1) := by decide +kernel
theorem dX10_sink_68 : decode cX10_sink 68 = .ok (.iload_n 2, 1) := by decide +kernel
theorem dX10_sink_69 : decode cX10_sink 69 = .ok (.iload_n 3, 1) := by decide +kernel
theorem dX10_sink_70 : decode cX10_sink 70 = .ok (.iload 4, 2) := by decide +kernel
theorem dX10_sink_72 : decode cX10_sink 72 = .ok (.invokevirtual 108, 3) := by decide +kernel
theorem dX10_sink_75 : decode cX10_sink 75 = .ok (.iload 5, 2) := by decide +kernel
theorem dX10_sink_77 : decode cX10_sink 77 = .ok (.ireturn, 1) := by decide +kernel
theorem dX10_fill_0 : decode cX10_fill 0 = .ok (.aload_n 0, 1) := by decide +kernel
theorem dX10_fill_1 : decode cX10_fill 1 = .ok (.getfield 10, 3) := by decide +kernel
theorem dX10_fill_4 : decode cX10_fill 4 = .ok (.iload_n 1, 1) := by decide +kernel
theorem dX10_fill_5 : decode cX10_fill 5 = .ok (.invokevirtual 112, 3) := by decide +kernel
theorem dX10_fill_8 : decode cX10_fill 8 = .ok (.ifCond .ne 5, 3) := by decide +kernel
theorem dX10_fill_11 : decode cX10_fill 11 = .ok (.iconst (-1), 1) := by decide +kernel
theorem dX10_fill_12 : decode cX10_fill 12 = .ok (.ireturn, 1) := by decide +kernel
theorem dX10_fill_13 : decode cX10_fill 13 = .ok (.aload_n 0, 1) := by decide +kernel
theorem dX10_fill_14 : decode cX10_fill 14 = .ok (.getfield 19, 3) := by decide +kernel
theorem dX10_fill_17 : decode cX10_fill 17 = .ok (.aload_n 0, 1) := by decide +kernel
theorem dX10_fill_18 : decode cX10_fill 18 = .ok (.getfield 10, 3) := by decide +kernel
theorem dX10_fill_21 : decode cX10_fill 21 = .ok (.invokevirtual 82, 3) := by decide +kernel
theorem dX10_fill_24 : decode cX10_fill 24 = .ok (.aload_n 0, 1) := by decide +kernel
theorem dX10_fill_25 : decode cX10_fill 25 = .ok (.getfield 10, 3) := by decide +kernel
theorem dX10_fill_28 : decode cX10_fill 28 = .ok (.iload_n 1, 1) := by decide +kernel
theorem dX10_fill_29 : decode cX10_fill 29 = .ok (.iconst 0, 1) := by decide +kernel
theorem dX10_fill_30 : decode cX10_fill 30 = .ok (.iconst 0, 1) := by decide +kernel
theorem dX10_fill_31 : decode cX10_fill 31 = .ok (.iconst (-1), 1) := by decide +kernel
theorem dX10_fill_32 : decode cX10_fill 32 = .ok (.iconst 0, 1) := by decide +kernel
theorem dX10_fill_33 : decode cX10_fill 33 = .ok (.invokevirtual 108, 3) := by decide +kernel
theorem dX10_fill_36 : decode cX10_fill 36 = .ok (.aload_n 0, 1) := by decide +kernel
theorem dX10_fill_37 : decode cX10_fill 37 = .ok (.getfield 10, 3) := by decide +kernel
theorem dX10_fill_40 : decode cX10_fill 40 = .ok (.getfield 116, 3) := by decide +kernel
theorem dX10_fill_43 : decode cX10_fill 43 = .ok (.ireturn, 1) := by decide +kernel
theorem dX10_become_0 : decode cX10_become 0 = .ok (.aload_n 0, 1) := by decide +kernel
theorem dX10_become_1 : decode cX10_become 1 = .ok (.getfield 10, 3) := by decide +kernel
theorem dX10_become_4 : decode cX10_become 4 = .ok (.iload_n 1, 1) := by decide +kernel
theorem dX10_become_5 : decode cX10_become 5 = .ok (.invokevirtual 112, 3) := by decide +kernel
theorem dX10_become_8 : decode cX10_become 8 = .ok (.ifCond .eq 11, 3) := by decide +kernel
theorem dX10_become_11 : decode cX10_become 11 = .ok (.iload_n 2, 1) := by decide +kernel
theorem dX10_become_12 : decode cX10_become 12 = .ok (.iload_n 3, 1) := by decide +kernel
theorem dX10_become_13 : decode cX10_become 13 = .ok (.invokestatic 119, 3) := by decide +kernel
theorem dX10_become_16 : decode cX10_become 16 = .ok (.ifCond .ne 5, 3) := by decide +kernel
theorem dX10_become_19 : decode cX10_become 19 = .ok (.iconst (-1), 1) := by decide +kernel
theorem dX10_become_20 : decode cX10_become 20 = .ok (.ireturn, 1) := by decide +kernel
theorem dX10_become_21 : decode cX10_become 21 = .ok (.aload_n 0, 1) := by decide +kernel
theorem dX10_become_22 : decode cX10_become 22 = .ok (.getfield 10, 3) := by decide +kernel
theorem dX10_become_25 : decode cX10_become 25 = .ok (.getfield 122, 3) := by decide +kernel
theorem dX10_become_28 : decode cX10_become 28 = .ok (.iload_n 1, 1) := by decide +kernel
theorem dX10_become_29 : decode cX10_become 29 = .ok (.iaload, 1) := by decide +kernel
theorem dX10_become_30 : decode cX10_become 30 = .ok (.istore 4, 2) := by decide +kernel
theorem dX10_become_32 : decode cX10_become 32 = .ok (.aload_n 0, 1) := by decide +kernel
theorem dX10_become_33 : decode cX10_become 33 = .ok (.getfield 19, 3) := by decide +kernel
theorem dX10_become_36 : decode cX10_become 36 = .ok (.aload_n 0, 1) := by decide +kernel
theorem dX10_become_37 : decode cX10_become 37 = .ok (.getfield 10, 3) := by decide +kernel
theorem dX10_become_40 : decode cX10_become 40 = .ok (.invokevirtual 82, 3) := by decide +kernel
theorem dX10_become_43 : decode cX10_become 43 = .ok (.aload_n 0, 1) := by decide +kernel
theorem dX10_become_44 : decode cX10_become 44 = .ok (.getfield 10, 3) := by decide +kernel
theorem dX10_become_47 : decode cX10_become 47 = .ok (.iload_n 1, 1) := by decide +kernel
theorem dX10_become_48 : decode cX10_become 48 = .ok (.aload_n 0, 1) := by decide +kernel
theorem dX10_become_49 : decode cX10_become 49 = .ok (.getfield 10, 3) := by decide +kernel
theorem dX10_become_52 : decode cX10_become 52 = .ok (.getfield 126, 3) := by decide +kernel
theorem dX10_become_55 : decode cX10_become 55 = .ok (.iload_n 1, 1) := by decide +kernel
theorem dX10_become_56 : decode cX10_become 56 = .ok (.iaload, 1) := by decide +kernel
theorem dX10_become_57 : decode cX10_become 57 = .ok (.aload_n 0, 1) := by decide +kernel
theorem dX10_become_58 : decode cX10_become 58 = .ok (.getfield 10, 3) := by decide +kernel
theorem dX10_become_61 : decode cX10_become 61 = .ok (.getfield 129, 3) := by decide +kernel
theorem dX10_become_64 : decode cX10_become 64 = .ok (.iload_n 1, 1) := by decide +kernel
theorem dX10_become_65 : decode cX10_become 65 = .ok (.iaload, 1) := by decide +kernel
theorem dX10_become_66 : decode cX10_become 66 = .ok (.iload_n 2, 1) := by decide +kernel
theorem dX10_become_67 : decode cX10_become 67 = .ok (.iload_n 3, 1) := by decide +kernel
theorem dX10_become_68 : decode cX10_become 68 = .ok (.invokevirtual 108, 3) := by decide +kernel
theorem dX10_become_71 : decode cX10_become 71 = .ok (.iload 4, 2) := by decide +kernel
theorem dX10_become_73 : decode cX10_become 73 = .ok (.ireturn, 1) := by decide +kernel
theorem dX10_well_0 : decode cX10_well 0 = .ok (.aload_n 0, 1) := by decide +kernel
theorem dX10_well_1 : decode cX10_well 1 = .ok (.getfield 10, 3) := by decide +kernel
theorem dX10_well_4 : decode cX10_well 4 = .ok (.iload_n 1, 1) := by decide +kernel
theorem dX10_well_5 : decode cX10_well 5 = .ok (.invokevirtual 112, 3) := by decide +kernel
theorem dX10_well_8 : decode cX10_well 8 = .ok (.ifCond .ne 5, 3) := by decide +kernel
theorem dX10_well_11 : decode cX10_well 11 = .ok (.iconst (-1), 1) := by decide +kernel
theorem dX10_well_12 : decode cX10_well 12 = .ok (.ireturn, 1) := by decide +kernel
theorem dX10_well_13 : decode cX10_well 13 = .ok (.iload_n 2, 1) := by decide +kernel
theorem dX10_well_14 : decode cX10_well 14 = .ok (.tableswitch 77 0 3 #[30, 40, 50, 60], 30) := by decide +kernel
theorem dX10_well_44 : decode cX10_well 44 = .ok (.aload_n 0, 1) := by decide +kernel
theorem dX10_well_45 : decode cX10_well 45 = .ok (.getfield 10, 3) := by decide +kernel
theorem dX10_well_48 : decode cX10_well 48 = .ok (.getfield 126, 3) := by decide +kernel
theorem dX10_well_51 : decode cX10_well 51 = .ok (.iload_n 1, 1) := by decide +kernel
theorem dX10_well_52 : decode cX10_well 52 = .ok (.iaload, 1) := by decide +kernel
theorem dX10_well_53 : decode cX10_well 53 = .ok (.ireturn, 1) := by decide +kernel
theorem dX10_well_54 : decode cX10_well 54 = .ok (.aload_n 0, 1) := by decide +kernel
theorem dX10_well_55 : decode cX10_well 55 = .ok (.getfield 10, 3) := by decide +kernel
theorem dX10_well_58 : decode cX10_well 58 = .ok (.getfield 129, 3) := by decide +kernel
theorem dX10_well_61 : decode cX10_well 61 = .ok (.iload_n 1, 1) := by decide +kernel
theorem dX10_well_62 : decode cX10_well 62 = .ok (.iaload, 1) := by decide +kernel
theorem dX10_well_63 : decode cX10_well 63 = .ok (.ireturn, 1) := by decide +kernel
theorem dX10_well_64 : decode cX10_well 64 = .ok (.aload_n 0, 1) := by decide +kernel
theorem dX10_well_65 : decode cX10_well 65 = .ok (.getfield 10, 3) := by decide +kernel
theorem dX10_well_68 : decode cX10_well 68 = .ok (.getfield 122, 3) := by decide +kernel
theorem dX10_well_71 : decode cX10_well 71 = .ok (.iload_n 1, 1) := by decide +kernel
theorem dX10_well_72 : decode cX10_well 72 = .ok (.iaload, 1) := by decide +kernel
theorem dX10_well_73 : decode cX10_well 73 = .ok (.ireturn, 1) := by decide +kernel
theorem dX10_well_74 : decode cX10_well 74 = .ok (.aload_n 0, 1) := by decide +kernel
theorem dX10_well_75 : decode cX10_well 75 = .ok (.getfield 10, 3) := by decide +kernel
theorem dX10_well_78 : decode cX10_well 78 = .ok (.iload_n 1, 1) := by decide +kernel
theorem dX10_well_79 : decode cX10_well 79 = .ok (.invokevirtual 132, 3) := by decide +kernel
theorem dX10_well_82 : decode cX10_well 82 = .ok (.ifCond .eq 7, 3) := by decide +kernel
theorem dX10_well_85 : decode cX10_well 85 = .ok (.iconst 1, 1) := by decide +kernel
theorem dX10_well_86 : decode cX10_well 86 = .ok (.goto 4, 3) := by decide +kernel
theorem dX10_well_89 : decode cX10_well 89 = .ok (.iconst 0, 1) := by decide +kernel
theorem dX10_well_90 : decode cX10_well 90 = .ok (.ireturn, 1) := by decide +kernel
theorem dX10_well_91 : decode cX10_well 91 = .ok (.iconst (-1), 1) := by decide +kernel
theorem dX10_well_92 : decode cX10_well 92 = .ok (.ireturn, 1) := by decide +kernel
theorem dX10_ask_0 : decode cX10_ask 0 = .ok (.aload_n 0, 1) := by decide +kernel
theorem dX10_ask_1 : decode cX10_ask 1 = .ok (.getfield 10, 3) := by decide +kernel
theorem dX10_ask_4 : decode cX10_ask 4 = .ok (.iload_n 1, 1) := by decide +kernel
theorem dX10_ask_5 : decode cX10_ask 5 = .ok (.invokevirtual 112, 3) := by decide +kernel
theorem dX10_ask_8 : decode cX10_ask 8 = .ok (.ifCond .ne 5, 3) := by decide +kernel
theorem dX10_ask_11 : decode cX10_ask 11 = .ok (.iconst (-1), 1) := by decide +kernel
theorem dX10_ask_12 : decode cX10_ask 12 = .ok (.ireturn, 1) := by decide +kernel
theorem dX10_ask_13 : decode cX10_ask 13 = .ok (.aload_n 0, 1) := by decide +kernel
theorem dX10_ask_14 : decode cX10_ask 14 = .ok (.getfield 10, 3) := by decide +kernel
theorem dX10_ask_17 : decode cX10_ask 17 = .ok (.getfield 122, 3) := by decide +kernel
theorem dX10_ask_20 : decode cX10_ask 20 = .ok (.iload_n 1, 1) := by decide +kernel
theorem dX10_ask_21 : decode cX10_ask 21 = .ok (.iaload, 1) := by decide +kernel
theorem dX10_ask_22 : decode cX10_ask 22 = .ok (.istore_n 3, 1) := by decide +kernel
theorem dX10_ask_23 : decode cX10_ask 23 = .ok (.iload_n 3, 1) := by decide +kernel
theorem dX10_ask_24 : decode cX10_ask 24 = .ok (.iconst 3, 1) := by decide +kernel
theorem dX10_ask_25 : decode cX10_ask 25 = .ok (.if_icmp .eq 8, 3) := by decide +kernel
theorem dX10_ask_28 : decode cX10_ask 28 = .ok (.iload_n 3, 1) := by decide +kernel
theorem dX10_ask_29 : decode cX10_ask 29 = .ok (.iconst 4, 1) := by decide +kernel
theorem dX10_ask_30 : decode cX10_ask 30 = .ok (.if_icmp .ne 7, 3) := by decide +kernel
theorem dX10_ask_33 : decode cX10_ask 33 = .ok (.iconst 1, 1) := by decide +kernel
theorem dX10_ask_34 : decode cX10_ask 34 = .ok (.goto 4, 3) := by decide +kernel
theorem dX10_ask_37 : decode cX10_ask 37 = .ok (.iconst 0, 1) := by decide +kernel
theorem dX10_ask_38 : decode cX10_ask 38 = .ok (.istore 4, 2) := by decide +kernel
theorem dX10_ask_40 : decode cX10_ask 40 = .ok (.iload_n 2, 1) := by decide +kernel
theorem dX10_ask_41 : decode cX10_ask 41 = .ok (.tableswitch 112 0 3 #[31, 51, 80, 92], 31) := by decide +kernel
theorem dX10_ask_72 : decode cX10_ask 72 = .ok (.iload_n 3, 1) := by decide +kernel
theorem dX10_ask_73 : decode cX10_ask 73 = .ok (.iconst 1, 1) := by decide +kernel
theorem dX10_ask_74 : decode cX10_ask 74 = .ok (.if_icmp .ne 15, 3) := by decide +kernel
theorem dX10_ask_77 : decode cX10_ask 77 = .ok (.aload_n 0, 1) := by decide +kernel
theorem dX10_ask_78 : decode cX10_ask 78 = .ok (.getfield 10, 3) := by decide +kernel
theorem dX10_ask_81 : decode cX10_ask 81 = .ok (.getfield 135, 3) := by decide +kernel
theorem dX10_ask_84 : decode cX10_ask 84 = .ok (.iload_n 1, 1) := by decide +kernel
theorem dX10_ask_85 : decode cX10_ask 85 = .ok (.iaload, 1) := by decide +kernel
theorem dX10_ask_86 : decode cX10_ask 86 = .ok (.goto 5, 3) := by decide +kernel
theorem dX10_ask_89 : decode cX10_ask 89 = .ok (.bipush (-2), 2) := by decide +kernel
theorem dX10_ask_91 : decode cX10_ask 91 = .ok (.ireturn, 1) := by decide +kernel
theorem dX10_ask_92 : decode cX10_ask 92 = .ok (.iload_n 3, 1) := by decide +kernel
theorem dX10_ask_93 : decode cX10_ask 93 = .ok (.iconst 2, 1) := by decide +kernel
theorem dX10_ask_94 : decode cX10_ask 94 = .ok (.if_icmp .ne 15, 3) := by decide +kernel
theorem dX10_ask_97 : decode cX10_ask 97 = .ok (.aload_n 0, 1) := by decide +kernel
theorem dX10_ask_98 : decode cX10_ask 98 = .ok (.getfield 10, 3) := by decide +kernel
theorem dX10_ask_101 : decode cX10_ask 101 = .ok (.getfield 135, 3) := by decide +kernel
theorem dX10_ask_104 : decode cX10_ask 104 = .ok (.iload_n 1, 1) := by decide +kernel
theorem dX10_ask_105 : decode cX10_ask 105 = .ok (.iaload, 1) := by decide +kernel
theorem dX10_ask_106 : decode cX10_ask 106 = .ok (.goto 14, 3) := by decide +kernel
theorem dX10_ask_109 : decode cX10_ask 109 = .ok (.iload 4, 2) := by decide +kernel
theorem dX10_ask_111 : decode cX10_ask 111 = .ok (.ifCond .eq 7, 3) := by decide +kernel
theorem dX10_ask_114 : decode cX10_ask 114 = .ok (.iconst 0, 1) := by decide +kernel
theorem dX10_ask_115 : decode cX10_ask 115 = .ok (.goto 5, 3) := by decide +kernel
theorem dX10_ask_118 : decode cX10_ask 118 = .ok (.bipush (-2), 2) := by decide +kernel
theorem dX10_ask_120 : decode cX10_ask 120 = .ok (.ireturn, 1) := by decide +kernel
theorem dX10_ask_121 : decode cX10_ask 121 = .ok (.iload 4, 2) := by decide +kernel
theorem dX10_ask_123 : decode cX10_ask 123 = .ok (.ifCond .eq 7, 3) := by decide +kernel
theorem dX10_ask_126 : decode cX10_ask 126 = .ok (.iconst 0, 1) := by decide +kernel
theorem dX10_ask_127 : decode cX10_ask 127 = .ok (.goto 5, 3) := by decide +kernel
theorem dX10_ask_130 : decode cX10_ask 130 = .ok (.bipush (-2), 2) := by decide +kernel
theorem dX10_ask_132 : decode cX10_ask 132 = .ok (.ireturn, 1) := by decide +kernel
theorem dX10_ask_133 : decode cX10_ask 133 = .ok (.iload_n 3, 1) := by decide +kernel
theorem dX10_ask_134 : decode cX10_ask 134 = .ok (.iconst 4, 1) := by decide +kernel
theorem dX10_ask_135 : decode cX10_ask 135 = .ok (.if_icmp .ne 15, 3) := by decide +kernel
theorem dX10_ask_138 : decode cX10_ask 138 = .ok (.aload_n 0, 1) := by decide +kernel
theorem dX10_ask_139 : decode cX10_ask 139 = .ok (.getfield 10, 3) := by decide +kernel
theorem dX10_ask_142 : decode cX10_ask 142 = .ok (.getfield 135, 3) := by decide +kernel
theorem dX10_ask_145 : decode cX10_ask 145 = .ok (.iload_n 1, 1) := by decide +kernel
theorem dX10_ask_146 : decode cX10_ask 146 = .ok (.iaload, 1) := by decide +kernel
theorem dX10_ask_147 : decode cX10_ask 147 = .ok (.goto 5, 3) := by decide +kernel
theorem dX10_ask_150 : decode cX10_ask 150 = .ok (.bipush (-2), 2) := by decide +kernel
theorem dX10_ask_152 : decode cX10_ask 152 = .ok (.ireturn, 1) := by decide +kernel
theorem dX10_ask_153 : decode cX10_ask 153 = .ok (.iconst (-1), 1) := by decide +kernel
theorem dX10_ask_154 : decode cX10_ask 154 = .ok (.ireturn, 1) := by decide +kernel
theorem dX10_count_0 : decode cX10_count 0 = .ok (.iload_n 1, 1) := by decide +kernel
theorem dX10_count_1 : decode cX10_count 1 = .ok (.tableswitch 51 0 2 #[27, 35, 43], 27) := by decide +kernel
theorem dX10_count_28 : decode cX10_count 28 = .ok (.aload_n 0, 1) := by decide +kernel
theorem dX10_count_29 : decode cX10_count 29 = .ok (.getfield 10, 3) := by decide +kernel
theorem dX10_count_32 : decode cX10_count 32 = .ok (.getfield 116, 3) := by decide +kernel
theorem dX10_count_35 : decode cX10_count 35 = .ok (.ireturn, 1) := by decide +kernel
theorem dX10_count_36 : decode cX10_count 36 = .ok (.aload_n 0, 1) := by decide +kernel
theorem dX10_count_37 : decode cX10_count 37 = .ok (.getfield 10, 3) := by decide +kernel
theorem dX10_count_40 : decode cX10_count 40 = .ok (.getfield 138, 3) := by decide +kernel
theorem dX10_count_43 : decode cX10_count 43 = .ok (.ireturn, 1) := by decide +kernel
theorem dX10_count_44 : decode cX10_count 44 = .ok (.aload_n 0, 1) := by decide +kernel
theorem dX10_count_45 : decode cX10_count 45 = .ok (.getfield 19, 3) := by decide +kernel
theorem dX10_count_48 : decode cX10_count 48 = .ok (.getfield 141, 3) := by decide +kernel
theorem dX10_count_51 : decode cX10_count 51 = .ok (.ireturn, 1) := by decide +kernel
theorem dX10_count_52 : decode cX10_count 52 = .ok (.iconst (-1), 1) := by decide +kernel
theorem dX10_count_53 : decode cX10_count 53 = .ok (.ireturn, 1) := by decide +kernel
theorem dX10_serves_0 : decode cX10_serves 0 = .ok (.aload_n 0, 1) := by decide +kernel
theorem dX10_serves_1 : decode cX10_serves 1 = .ok (.iload_n 1, 1) := by decide +kernel
theorem dX10_serves_2 : decode cX10_serves 2 = .ok (.iload_n 2, 1) := by decide +kernel
theorem dX10_serves_3 : decode cX10_serves 3 = .ok (.iload_n 3, 1) := by decide +kernel
theorem dX10_serves_4 : decode cX10_serves 4 = .ok (.invokevirtual 142, 3) := by decide +kernel
theorem dX10_serves_7 : decode cX10_serves 7 = .ok (.ifCond .ne 5, 3) := by decide +kernel
theorem dX10_serves_10 : decode cX10_serves 10 = .ok (.iconst (-1), 1) := by decide +kernel
theorem dX10_serves_11 : decode cX10_serves 11 = .ok (.ireturn, 1) := by decide +kernel
theorem dX10_serves_12 : decode cX10_serves 12 = .ok (.aload_n 0, 1) := by decide +kernel
theorem dX10_serves_13 : decode cX10_serves 13 = .ok (.iload_n 1, 1) := by decide +kernel
theorem dX10_serves_14 : decode cX10_serves 14 = .ok (.iload_n 2, 1) := by decide +kernel
theorem dX10_serves_15 : decode cX10_serves 15 = .ok (.iload_n 3, 1) := by decide +kernel
theorem dX10_serves_16 : decode cX10_serves 16 = .ok (.invokevirtual 146, 3) := by decide +kernel
theorem dX10_serves_19 : decode cX10_serves 19 = .ok (.iconst 0, 1) := by decide +kernel
theorem dX10_serves_20 : decode cX10_serves 20 = .ok (.istore 4, 2) := by decide +kernel
theorem dX10_serves_22 : decode cX10_serves 22 = .ok (.iconst 0, 1) := by decide +kernel
theorem dX10_serves_23 : decode cX10_serves 23 = .ok (.istore 5, 2) := by decide +kernel
theorem dX10_serves_25 : decode cX10_serves 25 = .ok (.iload 5, 2) := by decide +kernel
theorem dX10_serves_27 : decode cX10_serves 27 = .ok (.aload_n 0, 1) := by decide +kernel
theorem dX10_serves_28 : decode cX10_serves 28 = .ok (.getfield 10, 3) := by decide +kernel
theorem dX10_serves_31 : decode cX10_serves 31 = .ok (.getfield 138, 3) := by decide +kernel
theorem dX10_serves_34 : decode cX10_serves 34 = .ok (.if_icmp .ge 36, 3) := by decide +kernel
theorem dX10_serves_37 : decode cX10_serves 37 = .ok (.aload_n 0, 1) := by decide +kernel
theorem dX10_serves_38 : decode cX10_serves 38 = .ok (.iload 5, 2) := by decide +kernel
theorem dX10_serves_40 : decode cX10_serves 40 = .ok (.iconst 0, 1) := by decide +kernel
theorem dX10_serves_41 : decode cX10_serves 41 = .ok (.invokevirtual 150, 3) := by decide +kernel
theorem dX10_serves_44 : decode cX10_serves 44 = .ok (.ifCond .ne 20, 3) := by decide +kernel
theorem dX10_serves_47 : decode cX10_serves 47 = .ok (.iload 4, 2) := by decide +kernel
theorem dX10_serves_49 : decode cX10_serves 49 = .ok (.iconst 1, 1) := by decide +kernel
theorem dX10_serves_50 : decode cX10_serves 50 = .ok (.aload_n 0, 1) := by decide +kernel
theorem dX10_serves_51 : decode cX10_serves 51 = .ok (.getfield 10, 3) := by decide +kernel
theorem dX10_serves_54 : decode cX10_serves 54 = .ok (.getfield 154, 3) := by decide +kernel
theorem dX10_serves_57 : decode cX10_serves 57 = .ok (.iload 5, 2) := by decide +kernel
theorem dX10_serves_59 : decode cX10_serves 59 = .ok (.iaload, 1) := by decide +kernel
theorem dX10_serves_60 : decode cX10_serves 60 = .ok (.ishl, 1) := by decide +kernel
theorem dX10_serves_61 : decode cX10_serves 61 = .ok (.ior, 1) := by decide +kernel
theorem dX10_serves_62 : decode cX10_serves 62 = .ok (.istore 4, 2) := by decide +kernel
theorem dX10_serves_64 : decode cX10_serves 64 = .ok (.iinc 5 1, 3) := by decide +kernel
theorem dX10_serves_67 : decode cX10_serves 67 = .ok (.goto (-42), 3) := by decide +kernel
theorem dX10_serves_70 : decode cX10_serves 70 = .ok (.iload 4, 2) := by decide +kernel
theorem dX10_serves_72 : decode cX10_serves 72 = .ok (.ireturn, 1) := by decide +kernel
theorem dX10_next_0 : decode cX10_next 0 = .ok (.aload_n 0, 1) := by decide +kernel
theorem dX10_next_1 : decode cX10_next 1 = .ok (.iload_n 1, 1) := by decide +kernel
theorem dX10_next_2 : decode cX10_next 2 = .ok (.iload_n 2, 1) := by decide +kernel
theorem dX10_next_3 : decode cX10_next 3 = .ok (.iload_n 3, 1) := by decide +kernel
theorem dX10_next_4 : decode cX10_next 4 = .ok (.invokevirtual 142, 3) := by decide +kernel
theorem dX10_next_7 : decode cX10_next 7 = .ok (.ifCond .ne 5, 3) := by decide +kernel
theorem dX10_next_10 : decode cX10_next 10 = .ok (.iconst (-1), 1) := by decide +kernel
theorem dX10_next_11 : decode cX10_next 11 = .ok (.ireturn, 1) := by decide +kernel
theorem dX10_next_12 : decode cX10_next 12 = .ok (.aload_n 0, 1) := by decide +kernel
theorem dX10_next_13 : decode cX10_next 13 = .ok (.iload_n 1, 1) := by decide +kernel
theorem dX10_next_14 : decode cX10_next 14 = .ok (.iload_n 2, 1) := by decide +kernel
theorem dX10_next_15 : decode cX10_next 15 = .ok (.iload_n 3, 1) := by decide +kernel
theorem dX10_next_16 : decode cX10_next 16 = .ok (.invokevirtual 146, 3) := by decide +kernel
theorem dX10_next_19 : decode cX10_next 19 = .ok (.iconst 0, 1) := by decide +kernel
theorem dX10_next_20 : decode cX10_next 20 = .ok (.istore 5, 2) := by decide +kernel
theorem dX10_next_22 : decode cX10_next 22 = .ok (.iload 5, 2) := by decide +kernel
theorem dX10_next_24 : decode cX10_next 24 = .ok (.aload_n 0, 1) := by decide +kernel
theorem dX10_next_25 : decode cX10_next 25 = .ok (.getfield 10, 3) := by decide +kernel
theorem dX10_next_28 : decode cX10_next 28 = .ok (.getfield 138, 3) := by decide +kernel
theorem dX10_next_31 : decode cX10_next 31 = .ok (.if_icmp .ge 32, 3) := by decide +kernel
theorem dX10_next_34 : decode cX10_next 34 = .ok (.aload_n 0, 1) := by decide +kernel
theorem dX10_next_35 : decode cX10_next 35 = .ok (.iload 5, 2) := by decide +kernel
theorem dX10_next_37 : decode cX10_next 37 = .ok (.iconst 1, 1) := by decide +kernel
theorem dX10_next_38 : decode cX10_next 38 = .ok (.invokevirtual 150, 3) := by decide +kernel
theorem dX10_next_41 : decode cX10_next 41 = .ok (.iload 4, 2) := by decide +kernel
theorem dX10_next_43 : decode cX10_next 43 = .ok (.if_icmp .ne 14, 3) := by decide +kernel
theorem dX10_next_46 : decode cX10_next 46 = .ok (.aload_n 0, 1) := by decide +kernel
theorem dX10_next_47 : decode cX10_next 47 = .ok (.getfield 10, 3) := by decide +kernel
theorem dX10_next_50 : decode cX10_next 50 = .ok (.getfield 154, 3) := by decide +kernel
theorem dX10_next_53 : decode cX10_next 53 = .ok (.iload 5, 2) := by decide +kernel
theorem dX10_next_55 : decode cX10_next 55 = .ok (.iaload, 1) := by decide +kernel
theorem dX10_next_56 : decode cX10_next 56 = .ok (.ireturn, 1) := by decide +kernel
theorem dX10_next_57 : decode cX10_next 57 = .ok (.iinc 5 1, 3) := by decide +kernel
theorem dX10_next_60 : decode cX10_next 60 = .ok (.goto (-38), 3) := by decide +kernel
theorem dX10_next_63 : decode cX10_next 63 = .ok (.iconst (-1), 1) := by decide +kernel
theorem dX10_next_64 : decode cX10_next 64 = .ok (.ireturn, 1) := by decide +kernel
theorem dX10_corners_0 : decode cX10_corners 0 = .ok (.aload_n 0, 1) := by decide +kernel
theorem dX10_corners_1 : decode cX10_corners 1 = .ok (.getfield 10, 3) := by decide +kernel
theorem dX10_corners_4 : decode cX10_corners 4 = .ok (.iload_n 1, 1) := by decide +kernel
theorem dX10_corners_5 : decode cX10_corners 5 = .ok (.invokevirtual 112, 3) := by decide +kernel
theorem dX10_corners_8 : decode cX10_corners 8 = .ok (.ifCond .ne 5, 3) := by decide +kernel
theorem dX10_corners_11 : decode cX10_corners 11 = .ok (.iconst (-1), 1) := by decide +kernel
theorem dX10_corners_12 : decode cX10_corners 12 = .ok (.ireturn, 1) := by decide +kernel
theorem dX10_corners_13 : decode cX10_corners 13 = .ok (.aload_n 0, 1) := by decide +kernel
theorem dX10_corners_14 : decode cX10_corners 14 = .ok (.getfield 35, 3) := by decide +kernel
theorem dX10_corners_17 : decode cX10_corners 17 = .ok (.iload_n 1, 1) := by decide +kernel
theorem dX10_corners_18 : decode cX10_corners 18 = .ok (.invokevirtual 157, 3) := by decide +kernel
theorem dX10_corners_21 : decode cX10_corners 21 = .ok (.aload_n 0, 1) := by decide +kernel
theorem dX10_corners_22 : decode cX10_corners 22 = .ok (.getfield 35, 3) := by decide +kernel
theorem dX10_corners_25 : decode cX10_corners 25 = .ok (.invokevirtual 160, 3) := by decide +kernel
theorem dX10_corners_28 : decode cX10_corners 28 = .ok (.ireturn, 1) := by decide +kernel
theorem dX10_corner_0 : decode cX10_corner 0 = .ok (.aload_n 0, 1) := by decide +kernel
theorem dX10_corner_1 : decode cX10_corner 1 = .ok (.getfield 10, 3) := by decide +kernel
theorem dX10_corner_4 : decode cX10_corner 4 = .ok (.iload_n 1, 1) := by decide +kernel
theorem dX10_corner_5 : decode cX10_corner 5 = .ok (.invokevirtual 112, 3) := by decide +kernel
theorem dX10_corner_8 : decode cX10_corner 8 = .ok (.ifCond .ne 7, 3) := by decide +kernel
theorem dX10_corner_11 : decode cX10_corner 11 = .ok (.ldc2_w 163, 3) := by decide +kernel
theorem dX10_corner_14 : decode cX10_corner 14 = .ok (.lreturn, 1) := by decide +kernel
theorem dX10_corner_15 : decode cX10_corner 15 = .ok (.aload_n 0, 1) := by decide +kernel
theorem dX10_corner_16 : decode cX10_corner 16 = .ok (.getfield 35, 3) := by decide +kernel
theorem dX10_corner_19 : decode cX10_corner 19 = .ok (.iload_n 1, 1) := by decide +kernel
theorem dX10_corner_20 : decode cX10_corner 20 = .ok (.invokevirtual 157, 3) := by decide +kernel
theorem dX10_corner_23 : decode cX10_corner 23 = .ok (.aload_n 0, 1) := by decide +kernel
theorem dX10_corner_24 : decode cX10_corner 24 = .ok (.getfield 35, 3) := by decide +kernel
theorem dX10_corner_27 : decode cX10_corner 27 = .ok (.aload_n 0, 1) := by decide +kernel
theorem dX10_corner_28 : decode cX10_corner 28 = .ok (.getfield 35, 3) := by decide +kernel
theorem dX10_corner_31 : decode cX10_corner 31 = .ok (.iload_n 2, 1) := by decide +kernel
theorem dX10_corner_32 : decode cX10_corner 32 = .ok (.invokevirtual 165, 3) := by decide +kernel
theorem dX10_corner_35 : decode cX10_corner 35 = .ok (.iload_n 3, 1) := by decide +kernel
theorem dX10_corner_36 : decode cX10_corner 36 = .ok (.invokevirtual 169, 3) := by decide +kernel
theorem dX10_corner_39 : decode cX10_corner 39 = .ok (.lreturn, 1) := by decide +kernel
theorem dX10_beside_0 : decode cX10_beside 0 = .ok (.aload_n 0, 1) := by decide +kernel
theorem dX10_beside_1 : decode cX10_beside 1 = .ok (.iload_n 1, 1) := by decide +kernel
theorem dX10_beside_2 : decode cX10_beside 2 = .ok (.iload_n 2, 1) := by decide +kernel
theorem dX10_beside_3 : decode cX10_beside 3 = .ok (.invokevirtual 173, 3) := by decide +kernel
theorem dX10_beside_6 : decode cX10_beside 6 = .ok (.ifCond .ne 5, 3) := by decide +kernel
theorem dX10_beside_9 : decode cX10_beside 9 = .ok (.iconst (-1), 1) := by decide +kernel
theorem dX10_beside_10 : decode cX10_beside 10 = .ok (.ireturn, 1) := by decide +kernel
theorem dX10_beside_11 : decode cX10_beside 11 = .ok (.aload_n 0, 1) := by decide +kernel
theorem dX10_beside_12 : decode cX10_beside 12 = .ok (.getfield 35, 3) := by decide +kernel
theorem dX10_beside_15 : decode cX10_beside 15 = .ok (.iload_n 1, 1) := by decide +kernel
theorem dX10_beside_16 : decode cX10_beside 16 = .ok (.invokevirtual 157, 3) := by decide +kernel
theorem dX10_beside_19 : decode cX10_beside 19 = .ok (.aload_n 0, 1) := by decide +kernel
theorem dX10_beside_20 : decode cX10_beside 20 = .ok (.getfield 35, 3) := by decide +kernel
theorem dX10_beside_23 : decode cX10_beside 23 = .ok (.iload_n 2, 1) := by decide +kernel
theorem dX10_beside_24 : decode cX10_beside 24 = .ok (.invokevirtual 176, 3) := by decide +kernel
theorem dX10_beside_27 : decode cX10_beside 27 = .ok (.iconst 1, 1) := by decide +kernel
theorem dX10_beside_28 : decode cX10_beside 28 = .ok (.if_icmp .le 7, 3) := by decide +kernel
theorem dX10_beside_31 : decode cX10_beside 31 = .ok (.iconst 1, 1) := by decide +kernel
theorem dX10_beside_32 : decode cX10_beside 32 = .ok (.goto 4, 3) := by decide +kernel
theorem dX10_beside_35 : decode cX10_beside 35 = .ok (.iconst 0, 1) := by decide +kernel
theorem dX10_beside_36 : decode cX10_beside 36 = .ok (.ireturn, 1) := by decide +kernel
theorem dX10_border_0 : decode cX10_border 0 = .ok (.aload_n 0, 1) := by decide +kernel
theorem dX10_border_1 : decode cX10_border 1 = .ok (.iload_n 1, 1) := by decide +kernel
theorem dX10_border_2 : decode cX10_border 2 = .ok (.iload_n 2, 1) := by decide +kernel
theorem dX10_border_3 : decode cX10_border 3 = .ok (.invokevirtual 173, 3) := by decide +kernel
theorem dX10_border_6 : decode cX10_border 6 = .ok (.ifCond .ne 5, 3) := by decide +kernel
theorem dX10_border_9 : decode cX10_border 9 = .ok (.iconst (-1), 1) := by decide +kernel
theorem dX10_border_10 : decode cX10_border 10 = .ok (.ireturn, 1) := by decide +kernel
theorem dX10_border_11 : decode cX10_border 11 = .ok (.aload_n 0, 1) := by decide +kernel
theorem dX10_border_12 : decode cX10_border 12 = .ok (.getfield 35, 3) := by decide +kernel
theorem dX10_border_15 : decode cX10_border 15 = .ok (.iload_n 1, 1) := by decide +kernel
theorem dX10_border_16 : decode cX10_border 16 = .ok (.invokevirtual 157, 3) := by decide +kernel
theorem dX10_border_19 : decode cX10_border 19 = .ok (.aload_n 0, 1) := by decide +kernel
theorem dX10_border_20 : decode cX10_border 20 = .ok (.getfield 35, 3) := by decide +kernel
theorem dX10_border_23 : decode cX10_border 23 = .ok (.iload_n 2, 1) := by decide +kernel
theorem dX10_border_24 : decode cX10_border 24 = .ok (.invokevirtual 176, 3) := by decide +kernel
theorem dX10_border_27 : decode cX10_border 27 = .ok (.ireturn, 1) := by decide +kernel
theorem dX10_end_0 : decode cX10_end 0 = .ok (.aload_n 0, 1) := by decide +kernel
theorem dX10_end_1 : decode cX10_end 1 = .ok (.iload_n 1, 1) := by decide +kernel
theorem dX10_end_2 : decode cX10_end 2 = .ok (.iload_n 2, 1) := by decide +kernel
theorem dX10_end_3 : decode cX10_end 3 = .ok (.invokevirtual 173, 3) := by decide +kernel
theorem dX10_end_6 : decode cX10_end 6 = .ok (.ifCond .ne 7, 3) := by decide +kernel
theorem dX10_end_9 : decode cX10_end 9 = .ok (.ldc2_w 163, 3) := by decide +kernel
theorem dX10_end_12 : decode cX10_end 12 = .ok (.lreturn, 1) := by decide +kernel
theorem dX10_end_13 : decode cX10_end 13 = .ok (.aload_n 0, 1) := by decide +kernel
theorem dX10_end_14 : decode cX10_end 14 = .ok (.getfield 35, 3) := by decide +kernel
theorem dX10_end_17 : decode cX10_end 17 = .ok (.iload_n 1, 1) := by decide +kernel
theorem dX10_end_18 : decode cX10_end 18 = .ok (.invokevirtual 157, 3) := by decide +kernel
theorem dX10_end_21 : decode cX10_end 21 = .ok (.aload_n 0, 1) := by decide +kernel
theorem dX10_end_22 : decode cX10_end 22 = .ok (.getfield 35, 3) := by decide +kernel
theorem dX10_end_25 : decode cX10_end 25 = .ok (.aload_n 0, 1) := by decide +kernel
theorem dX10_end_26 : decode cX10_end 26 = .ok (.getfield 35, 3) := by decide +kernel
theorem dX10_end_29 : decode cX10_end 29 = .ok (.iload_n 2, 1) := by decide +kernel
theorem dX10_end_30 : decode cX10_end 30 = .ok (.iload_n 3, 1) := by decide +kernel
theorem dX10_end_31 : decode cX10_end 31 = .ok (.invokevirtual 179, 3) := by decide +kernel
theorem dX10_end_34 : decode cX10_end 34 = .ok (.iload 4, 2) := by decide +kernel
theorem dX10_end_36 : decode cX10_end 36 = .ok (.invokevirtual 169, 3) := by decide +kernel
theorem dX10_end_39 : decode cX10_end 39 = .ok (.lreturn, 1) := by decide +kernel
theorem dX10_about_0 : decode cX10_about 0 = .ok (.aload_n 0, 1) := by decide +kernel
theorem dX10_about_1 : decode cX10_about 1 = .ok (.getfield 10, 3) := by decide +kernel
theorem dX10_about_4 : decode cX10_about 4 = .ok (.iload_n 1, 1) := by decide +kernel
theorem dX10_about_5 : decode cX10_about 5 = .ok (.invokevirtual 112, 3) := by decide +kernel
theorem dX10_about_8 : decode cX10_about 8 = .ok (.ifCond .ne 5, 3) := by decide +kernel
theorem dX10_about_11 : decode cX10_about 11 = .ok (.iconst (-1), 1) := by decide +kernel
theorem dX10_about_12 : decode cX10_about 12 = .ok (.ireturn, 1) := by decide +kernel
theorem dX10_about_13 : decode cX10_about 13 = .ok (.aload_n 0, 1) := by decide +kernel
theorem dX10_about_14 : decode cX10_about 14 = .ok (.getfield 35, 3) := by decide +kernel
theorem dX10_about_17 : decode cX10_about 17 = .ok (.iload_n 1, 1) := by decide +kernel
theorem dX10_about_18 : decode cX10_about 18 = .ok (.invokevirtual 157, 3) := by decide +kernel
theorem dX10_about_21 : decode cX10_about 21 = .ok (.iconst 0, 1) := by decide +kernel
theorem dX10_about_22 : decode cX10_about 22 = .ok (.istore_n 2, 1) := by decide +kernel
theorem dX10_about_23 : decode cX10_about 23 = .ok (.iconst 0, 1) := by decide +kernel
theorem dX10_about_24 : decode cX10_about 24 = .ok (.istore_n 3, 1) := by decide +kernel
theorem dX10_about_25 : decode cX10_about 25 = .ok (.iload_n 3, 1) := by decide +kernel
theorem dX10_about_26 : decode cX10_about 26 = .ok (.bipush 24, 2) := by decide +kernel
theorem dX10_about_28 : decode cX10_about 28 = .ok (.if_icmp .ge 32, 3) := by decide +kernel
theorem dX10_about_31 : decode cX10_about 31 = .ok (.iload_n 3, 1) := by decide +kernel
theorem dX10_about_32 : decode cX10_about 32 = .ok (.iload_n 1, 1) := by decide +kernel
theorem dX10_about_33 : decode cX10_about 33 = .ok (.if_icmp .eq 21, 3) := by decide +kernel
theorem dX10_about_36 : decode cX10_about 36 = .ok (.aload_n 0, 1) := by decide +kernel
theorem dX10_about_37 : decode cX10_about 37 = .ok (.getfield 35, 3) := by decide +kernel
theorem dX10_about_40 : decode cX10_about 40 = .ok (.iload_n 3, 1) := by decide +kernel
theorem dX10_about_41 : decode cX10_about 41 = .ok (.invokevirtual 176, 3) := by decide +kernel
theorem dX10_about_44 : decode cX10_about 44 = .ok (.iconst 1, 1) := by decide +kernel
theorem dX10_about_45 : decode cX10_about 45 = .ok (.if_icmp .le 9, 3) := by decide +kernel
theorem dX10_about_48 : decode cX10_about 48 = .ok (.iload_n 2, 1) := by decide +kernel
theorem dX10_about_49 : decode cX10_about 49 = .ok (.iconst 1, 1) := by decide +kernel
theorem dX10_about_50 : decode cX10_about 50 = .ok (.iload_n 3, 1) := by decide +kernel
theorem dX10_about_51 : decode cX10_about 51 = .ok (.ishl, 1) := by decide +kernel
theorem dX10_about_52 : decode cX10_about 52 = .ok (.ior, 1) := by decide +kernel
theorem dX10_about_53 : decode cX10_about 53 = .ok (.istore_n 2, 1) := by decide +kernel
theorem dX10_about_54 : decode cX10_about 54 = .ok (.iinc 3 1, 3) := by decide +kernel
theorem dX10_about_57 : decode cX10_about 57 = .ok (.goto (-32), 3) := by decide +kernel
theorem dX10_about_60 : decode cX10_about 60 = .ok (.iload_n 2, 1) := by decide +kernel
theorem dX10_about_61 : decode cX10_about 61 = .ok (.ireturn, 1) := by decide +kernel
theorem dX10_rings_0 : decode cX10_rings 0 = .ok (.aload_n 0, 1) := by decide +kernel
theorem dX10_rings_1 : decode cX10_rings 1 = .ok (.getfield 42, 3) := by decide +kernel
theorem dX10_rings_4 : decode cX10_rings 4 = .ok (.invokevirtual 183, 3) := by decide +kernel
theorem dX10_rings_7 : decode cX10_rings 7 = .ok (.aload_n 0, 1) := by decide +kernel
theorem dX10_rings_8 : decode cX10_rings 8 = .ok (.getfield 42, 3) := by decide +kernel
theorem dX10_rings_11 : decode cX10_rings 11 = .ok (.getfield 186, 3) := by decide +kernel
theorem dX10_rings_14 : decode cX10_rings 14 = .ok (.ireturn, 1) := by decide +kernel
theorem dX10_ring_0 : decode cX10_ring 0 = .ok (.aload_n 0, 1) := by decide +kernel
theorem dX10_ring_1 : decode cX10_ring 1 = .ok (.getfield 42, 3) := by decide +kernel
theorem dX10_ring_4 : decode cX10_ring 4 = .ok (.invokevirtual 183, 3) := by decide +kernel
theorem dX10_ring_7 : decode cX10_ring 7 = .ok (.iload_n 1, 1) := by decide +kernel
theorem dX10_ring_8 : decode cX10_ring 8 = .ok (.ifCond .lt 26, 3) := by decide +kernel
theorem dX10_ring_11 : decode cX10_ring 11 = .ok (.iload_n 1, 1) := by decide +kernel
theorem dX10_ring_12 : decode cX10_ring 12 = .ok (.aload_n 0, 1) := by decide +kernel
theorem dX10_ring_13 : decode cX10_ring 13 = .ok (.getfield 42, 3) := by decide +kernel
theorem dX10_ring_16 : decode cX10_ring 16 = .ok (.getfield 186, 3) := by decide +kernel
theorem dX10_ring_19 : decode cX10_ring 19 = .ok (.if_icmp .ge 15, 3) := by decide +kernel
theorem dX10_ring_22 : decode cX10_ring 22 = .ok (.aload_n 0, 1) := by decide +kernel
theorem dX10_ring_23 : decode cX10_ring 23 = .ok (.getfield 42, 3) := by decide +kernel
theorem dX10_ring_26 : decode cX10_ring 26 = .ok (.getfield 187, 3) := by decide +kernel
theorem dX10_ring_29 : decode cX10_ring 29 = .ok (.iload_n 1, 1) := by decide +kernel
theorem dX10_ring_30 : decode cX10_ring 30 = .ok (.iaload, 1) := by decide +kernel
theorem dX10_ring_31 : decode cX10_ring 31 = .ok (.goto 4, 3) := by decide +kernel
theorem dX10_ring_34 : decode cX10_ring 34 = .ok (.iconst 0, 1) := by decide +kernel
theorem dX10_ring_35 : decode cX10_ring 35 = .ok (.ireturn, 1) := by decide +kernel
theorem dX10_round_0 : decode cX10_round 0 = .ok (.aload_n 0, 1) := by decide +kernel
theorem dX10_round_1 : decode cX10_round 1 = .ok (.getfield 42, 3) := by decide +kernel
theorem dX10_round_4 : decode cX10_round 4 = .ok (.invokevirtual 183, 3) := by decide +kernel
theorem dX10_round_7 : decode cX10_round 7 = .ok (.aload_n 0, 1) := by decide +kernel
theorem dX10_round_8 : decode cX10_round 8 = .ok (.getfield 42, 3) := by decide +kernel
theorem dX10_round_11 : decode cX10_round 11 = .ok (.iload_n 1, 1) := by decide +kernel
theorem dX10_round_12 : decode cX10_round 12 = .ok (.iload_n 2, 1) := by decide +kernel
theorem dX10_round_13 : decode cX10_round 13 = .ok (.invokevirtual 190, 3) := by decide +kernel
theorem dX10_round_16 : decode cX10_round 16 = .ok (.lreturn, 1) := by decide +kernel
theorem dX10_largest_0 : decode cX10_largest 0 = .ok (.aload_n 0, 1) := by decide +kernel
theorem dX10_largest_1 : decode cX10_largest 1 = .ok (.getfield 49, 3) := by decide +kernel
theorem dX10_largest_4 : decode cX10_largest 4 = .ok (.invokevirtual 191, 3) := by decide +kernel
theorem dX10_largest_7 : decode cX10_largest 7 = .ok (.aload_n 0, 1) := by decide +kernel
theorem dX10_largest_8 : decode cX10_largest 8 = .ok (.getfield 49, 3) := by decide +kernel
theorem dX10_largest_11 : decode cX10_largest 11 = .ok (.iload_n 1, 1) := by decide +kernel
theorem dX10_largest_12 : decode cX10_largest 12 = .ok (.invokevirtual 192, 3) := by decide +kernel
theorem dX10_largest_15 : decode cX10_largest 15 = .ok (.lreturn, 1) := by decide +kernel
theorem dX10_closest_0 : decode cX10_closest 0 = .ok (.aload_n 0, 1) := by decide +kernel
theorem dX10_closest_1 : decode cX10_closest 1 = .ok (.getfield 56, 3) := by decide +kernel
theorem dX10_closest_4 : decode cX10_closest 4 = .ok (.invokevirtual 195, 3) := by decide +kernel
theorem dX10_closest_7 : decode cX10_closest 7 = .ok (.aload_n 0, 1) := by decide +kernel
theorem dX10_closest_8 : decode cX10_closest 8 = .ok (.getfield 56, 3) := by decide +kernel
theorem dX10_closest_11 : decode cX10_closest 11 = .ok (.iconst 0, 1) := by decide +kernel
theorem dX10_closest_12 : decode cX10_closest 12 = .ok (.iload_n 1, 1) := by decide +kernel
theorem dX10_closest_13 : decode cX10_closest 13 = .ok (.invokevirtual 198, 3) := by decide +kernel
theorem dX10_closest_16 : decode cX10_closest 16 = .ok (.ireturn, 1) := by decide +kernel
theorem dX10_nearest_0 : decode cX10_nearest 0 = .ok (.aload_n 0, 1) := by decide +kernel
theorem dX10_nearest_1 : decode cX10_nearest 1 = .ok (.getfield 10, 3) := by decide +kernel
theorem dX10_nearest_4 : decode cX10_nearest 4 = .ok (.iload_n 1, 1) := by decide +kernel
theorem dX10_nearest_5 : decode cX10_nearest 5 = .ok (.invokevirtual 132, 3) := by decide +kernel
theorem dX10_nearest_8 : decode cX10_nearest 8 = .ok (.ifCond .ne 5, 3) := by decide +kernel
theorem dX10_nearest_11 : decode cX10_nearest 11 = .ok (.iconst (-1), 1) := by decide +kernel
theorem dX10_nearest_12 : decode cX10_nearest 12 = .ok (.ireturn, 1) := by decide +kernel
theorem dX10_nearest_13 : decode cX10_nearest 13 = .ok (.iconst (-1), 1) := by decide +kernel
theorem dX10_nearest_14 : decode cX10_nearest 14 = .ok (.istore_n 2, 1) := by decide +kernel
theorem dX10_nearest_15 : decode cX10_nearest 15 = .ok (.iconst 0, 1) := by decide +kernel
theorem dX10_nearest_16 : decode cX10_nearest 16 = .ok (.istore_n 3, 1) := by decide +kernel
theorem dX10_nearest_17 : decode cX10_nearest 17 = .ok (.iload_n 3, 1) := by decide +kernel
theorem dX10_nearest_18 : decode cX10_nearest 18 = .ok (.aload_n 0, 1) := by decide +kernel
theorem dX10_nearest_19 : decode cX10_nearest 19 = .ok (.getfield 10, 3) := by decide +kernel
theorem dX10_nearest_22 : decode cX10_nearest 22 = .ok (.getfield 138, 3) := by decide +kernel
theorem dX10_nearest_25 : decode cX10_nearest 25 = .ok (.if_icmp .ge 56, 3) := by decide +kernel
theorem dX10_nearest_28 : decode cX10_nearest 28 = .ok (.aload_n 0, 1) := by decide +kernel
theorem dX10_nearest_29 : decode cX10_nearest 29 = .ok (.getfield 10, 3) := by decide +kernel
theorem dX10_nearest_32 : decode cX10_nearest 32 = .ok (.getfield 154, 3) := by decide +kernel
theorem dX10_nearest_35 : decode cX10_nearest 35 = .ok (.iload_n 3, 1) := by decide +kernel
theorem dX10_nearest_36 : decode cX10_nearest 36 = .ok (.iaload, 1) := by decide +kernel
theorem dX10_nearest_37 : decode cX10_nearest 37 = .ok (.istore 4, 2) := by decide +kernel
theorem dX10_nearest_39 : decode cX10_nearest 39 = .ok (.iload 4, 2) := by decide +kernel
theorem dX10_nearest_41 : decode cX10_nearest 41 = .ok (.iload_n 1, 1) := by decide +kernel
theorem dX10_nearest_42 : decode cX10_nearest 42 = .ok (.if_icmp .eq 33, 3) := by decide +kernel
theorem dX10_nearest_45 : decode cX10_nearest 45 = .ok (.iload_n 2, 1) := by decide +kernel
theorem dX10_nearest_46 : decode cX10_nearest 46 = .ok (.iconst (-1), 1) := by decide +kernel
theorem dX10_nearest_47 : decode cX10_nearest 47 = .ok (.if_icmp .eq 25, 3) := by decide +kernel
theorem dX10_nearest_50 : decode cX10_nearest 50 = .ok (.aload_n 0, 1) := by decide +kernel
theorem dX10_nearest_51 : decode cX10_nearest 51 = .ok (.getfield 10, 3) := by decide +kernel
theorem dX10_nearest_54 : decode cX10_nearest 54 = .ok (.iload 4, 2) := by decide +kernel
theorem dX10_nearest_56 : decode cX10_nearest 56 = .ok (.iload_n 1, 1) := by decide +kernel
theorem dX10_nearest_57 : decode cX10_nearest 57 = .ok (.invokevirtual 200, 3) := by decide +kernel
theorem dX10_nearest_60 : decode cX10_nearest 60 = .ok (.aload_n 0, 1) := by decide +kernel
theorem dX10_nearest_61 : decode cX10_nearest 61 = .ok (.getfield 10, 3) := by decide +kernel
theorem dX10_nearest_64 : decode cX10_nearest 64 = .ok (.iload_n 2, 1) := by decide +kernel
theorem dX10_nearest_65 : decode cX10_nearest 65 = .ok (.iload_n 1, 1) := by decide +kernel
theorem dX10_nearest_66 : decode cX10_nearest 66 = .ok (.invokevirtual 200, 3) := by decide +kernel
theorem dX10_nearest_69 : decode cX10_nearest 69 = .ok (.if_icmp .ge 6, 3) := by decide +kernel
theorem dX10_nearest_72 : decode cX10_nearest 72 = .ok (.iload 4, 2) := by decide +kernel
theorem dX10_nearest_74 : decode cX10_nearest 74 = .ok (.istore_n 2, 1) := by decide +kernel
theorem dX10_nearest_75 : decode cX10_nearest 75 = .ok (.iinc 3 1, 3) := by decide +kernel
theorem dX10_nearest_78 : decode cX10_nearest 78 = .ok (.goto (-61), 3) := by decide +kernel
theorem dX10_nearest_81 : decode cX10_nearest 81 = .ok (.iload_n 2, 1) := by decide +kernel
theorem dX10_nearest_82 : decode cX10_nearest 82 = .ok (.ireturn, 1) := by decide +kernel
theorem dX10_tree_0 : decode cX10_tree 0 = .ok (.aload_n 0, 1) := by decide +kernel
theorem dX10_tree_1 : decode cX10_tree 1 = .ok (.getfield 56, 3) := by decide +kernel
theorem dX10_tree_4 : decode cX10_tree 4 = .ok (.invokevirtual 195, 3) := by decide +kernel
theorem dX10_tree_7 : decode cX10_tree 7 = .ok (.aload_n 0, 1) := by decide +kernel
theorem dX10_tree_8 : decode cX10_tree 8 = .ok (.getfield 56, 3) := by decide +kernel
theorem dX10_tree_11 : decode cX10_tree 11 = .ok (.getfield 203, 3) := by decide +kernel
theorem dX10_tree_14 : decode cX10_tree 14 = .ok (.ireturn, 1) := by decide +kernel
theorem dX10_pipe_0 : decode cX10_pipe 0 = .ok (.aload_n 0, 1) := by decide +kernel
theorem dX10_pipe_1 : decode cX10_pipe 1 = .ok (.getfield 56, 3) := by decide +kernel
theorem dX10_pipe_4 : decode cX10_pipe 4 = .ok (.invokevirtual 195, 3) := by decide +kernel
theorem dX10_pipe_7 : decode cX10_pipe 7 = .ok (.aload_n 0, 1) := by decide +kernel
theorem dX10_pipe_8 : decode cX10_pipe 8 = .ok (.getfield 56, 3) := by decide +kernel
theorem dX10_pipe_11 : decode cX10_pipe 11 = .ok (.iload_n 1, 1) := by decide +kernel
theorem dX10_pipe_12 : decode cX10_pipe 12 = .ok (.iload_n 2, 1) := by decide +kernel
theorem dX10_pipe_13 : decode cX10_pipe 13 = .ok (.invokevirtual 198, 3) := by decide +kernel
theorem dX10_pipe_16 : decode cX10_pipe 16 = .ok (.ireturn, 1) := by decide +kernel
theorem dX10_hull_0 : decode cX10_hull 0 = .ok (.aload_n 0, 1) := by decide +kernel
theorem dX10_hull_1 : decode cX10_hull 1 = .ok (.getfield 63, 3) := by decide +kernel
theorem dX10_hull_4 : decode cX10_hull 4 = .ok (.invokevirtual 204, 3) := by decide +kernel
theorem dX10_hull_7 : decode cX10_hull 7 = .ok (.aload_n 0, 1) := by decide +kernel
theorem dX10_hull_8 : decode cX10_hull 8 = .ok (.getfield 63, 3) := by decide +kernel
theorem dX10_hull_11 : decode cX10_hull 11 = .ok (.getfield 207, 3) := by decide +kernel
theorem dX10_hull_14 : decode cX10_hull 14 = .ok (.ireturn, 1) := by decide +kernel
theorem dX10_around_0 : decode cX10_around 0 = .ok (.aload_n 0, 1) := by decide +kernel
theorem dX10_around_1 : decode cX10_around 1 = .ok (.getfield 63, 3) := by decide +kernel
theorem dX10_around_4 : decode cX10_around 4 = .ok (.invokevirtual 204, 3) := by decide +kernel
theorem dX10_around_7 : decode cX10_around 7 = .ok (.iload_n 1, 1) := by decide +kernel
theorem dX10_around_8 : decode cX10_around 8 = .ok (.ifCond .lt 26, 3) := by decide +kernel
theorem dX10_around_11 : decode cX10_around 11 = .ok (.iload_n 1, 1) := by decide +kernel
theorem dX10_around_12 : decode cX10_around 12 = .ok (.aload_n 0, 1) := by decide +kernel
theorem dX10_around_13 : decode cX10_around 13 = .ok (.getfield 63, 3) := by decide +kernel
theorem dX10_around_16 : decode cX10_around 16 = .ok (.getfield 207, 3) := by decide +kernel
theorem dX10_around_19 : decode cX10_around 19 = .ok (.if_icmp .ge 15, 3) := by decide +kernel
theorem dX10_around_22 : decode cX10_around 22 = .ok (.aload_n 0, 1) := by decide +kernel
theorem dX10_around_23 : decode cX10_around 23 = .ok (.getfield 63, 3) := by decide +kernel
theorem dX10_around_26 : decode cX10_around 26 = .ok (.getfield 208, 3) := by decide +kernel
theorem dX10_around_29 : decode cX10_around 29 = .ok (.iload_n 1, 1) := by decide +kernel
theorem dX10_around_30 : decode cX10_around 30 = .ok (.iaload, 1) := by decide +kernel
theorem dX10_around_31 : decode cX10_around 31 = .ok (.goto 4, 3) := by decide +kernel
theorem dX10_around_34 : decode cX10_around 34 = .ok (.iconst (-1), 1) := by decide +kernel
theorem dX10_around_35 : decode cX10_around 35 = .ok (.ireturn, 1) := by decide +kernel
theorem dX10_keep_0 : decode cX10_keep 0 = .ok (.iload_n 1, 1) := by decide +kernel
theorem dX10_keep_1 : decode cX10_keep 1 = .ok (.ifCond .lt 26, 3) := by decide +kernel
theorem dX10_keep_4 : decode cX10_keep 4 = .ok (.iload_n 1, 1) := by decide +kernel
theorem dX10_keep_5 : decode cX10_keep 5 = .ok (.iconst 4, 1) := by decide +kernel
theorem dX10_keep_6 : decode cX10_keep 6 = .ok (.if_icmp .ge 21, 3) := by decide +kernel
theorem dX10_keep_9 : decode cX10_keep 9 = .ok (.iload_n 2, 1) := by decide +kernel
theorem dX10_keep_10 : decode cX10_keep 10 = .ok (.ifCond .lt 17, 3) := by decide +kernel
theorem dX10_keep_13 : decode cX10_keep 13 = .ok (.iload_n 2, 1) := by decide +kernel
theorem dX10_keep_14 : decode cX10_keep 14 = .ok (.iconst 4, 1) := by decide +kernel
theorem dX10_keep_15 : decode cX10_keep 15 = .ok (.if_icmp .ge 12, 3) := by decide +kernel
theorem dX10_keep_18 : decode cX10_keep 18 = .ok (.iload_n 1, 1) := by decide +kernel
theorem dX10_keep_19 : decode cX10_keep 19 = .ok (.iload_n 2, 1) := by decide +kernel
theorem dX10_keep_20 : decode cX10_keep 20 = .ok (.if_icmp .eq 7, 3) := by decide +kernel
theorem dX10_keep_23 : decode cX10_keep 23 = .ok (.iconst 1, 1) := by decide +kernel
theorem dX10_keep_24 : decode cX10_keep 24 = .ok (.goto 4, 3) := by decide +kernel
theorem dX10_keep_27 : decode cX10_keep 27 = .ok (.iconst 0, 1) := by decide +kernel
theorem dX10_keep_28 : decode cX10_keep 28 = .ok (.istore_n 3, 1) := by decide +kernel
theorem dX10_keep_29 : decode cX10_keep 29 = .ok (.iload_n 3, 1) := by decide +kernel
theorem dX10_keep_30 : decode cX10_keep 30 = .ok (.ifCond .eq 25, 3) := by decide +kernel
theorem dX10_keep_33 : decode cX10_keep 33 = .ok (.aload_n 0, 1) := by decide +kernel
theorem dX10_keep_34 : decode cX10_keep 34 = .ok (.getfield 10, 3) := by decide +kernel
theorem dX10_keep_37 : decode cX10_keep 37 = .ok (.getfield 138, 3) := by decide +kernel
theorem dX10_keep_40 : decode cX10_keep 40 = .ok (.ifCond .le 15, 3) := by decide +kernel
theorem dX10_keep_43 : decode cX10_keep 43 = .ok (.aload_n 0, 1) := by decide +kernel
theorem dX10_keep_44 : decode cX10_keep 44 = .ok (.getfield 70, 3) := by decide +kernel
theorem dX10_keep_47 : decode cX10_keep 47 = .ok (.iload_n 1, 1) := by decide +kernel
theorem dX10_keep_48 : decode cX10_keep 48 = .ok (.iload_n 2, 1) := by decide +kernel
theorem dX10_keep_49 : decode cX10_keep 49 = .ok (.invokevirtual 211, 3) := by decide +kernel
theorem dX10_keep_52 : decode cX10_keep 52 = .ok (.goto 4, 3) := by decide +kernel
theorem dX10_keep_55 : decode cX10_keep 55 = .ok (.iconst (-1), 1) := by decide +kernel
theorem dX10_keep_56 : decode cX10_keep 56 = .ok (.ireturn, 1) := by decide +kernel
theorem dX10_sheet_0 : decode cX10_sheet 0 = .ok (.iload_n 1, 1) := by decide +kernel
theorem dX10_sheet_1 : decode cX10_sheet 1 = .ok (.ifCond .lt 20, 3) := by decide +kernel
theorem dX10_sheet_4 : decode cX10_sheet 4 = .ok (.iload_n 1, 1) := by decide +kernel
theorem dX10_sheet_5 : decode cX10_sheet 5 = .ok (.bipush 8, 2) := by decide +kernel
theorem dX10_sheet_7 : decode cX10_sheet 7 = .ok (.if_icmp .ge 14, 3) := by decide +kernel
theorem dX10_sheet_10 : decode cX10_sheet 10 = .ok (.iload_n 2, 1) := by decide +kernel
theorem dX10_sheet_11 : decode cX10_sheet 11 = .ok (.iconst (-1), 1) := by decide +kernel
theorem dX10_sheet_12 : decode cX10_sheet 12 = .ok (.if_icmp .lt 9, 3) := by decide +kernel
theorem dX10_sheet_15 : decode cX10_sheet 15 = .ok (.iload_n 2, 1) := by decide +kernel
theorem dX10_sheet_16 : decode cX10_sheet 16 = .ok (.bipush 8, 2) := by decide +kernel
theorem dX10_sheet_18 : decode cX10_sheet 18 = .ok (.if_icmp .le 5, 3) := by decide +kernel
theorem dX10_sheet_21 : decode cX10_sheet 21 = .ok (.iconst 0, 1) := by decide +kernel
theorem dX10_sheet_22 : decode cX10_sheet 22 = .ok (.ireturn, 1) := by decide +kernel
theorem dX10_sheet_23 : decode cX10_sheet 23 = .ok (.aload_n 0, 1) := by decide +kernel
theorem dX10_sheet_24 : decode cX10_sheet 24 = .ok (.getfield 26, 3) := by decide +kernel
theorem dX10_sheet_27 : decode cX10_sheet 27 = .ok (.iload_n 1, 1) := by decide +kernel
theorem dX10_sheet_28 : decode cX10_sheet 28 = .ok (.iload_n 2, 1) := by decide +kernel
theorem dX10_sheet_29 : decode cX10_sheet 29 = .ok (.invokevirtual 214, 3) := by decide +kernel
theorem dX10_sheet_32 : decode cX10_sheet 32 = .ok (.iconst 1, 1) := by decide +kernel
theorem dX10_sheet_33 : decode cX10_sheet 33 = .ok (.ireturn, 1) := by decide +kernel
theorem dX10_line_0 : decode cX10_line 0 = .ok (.aload_n 0, 1) := by decide +kernel
theorem dX10_line_1 : decode cX10_line 1 = .ok (.getfield 26, 3) := by decide +kernel
theorem dX10_line_4 : decode cX10_line 4 = .ok (.iload_n 1, 1) := by decide +kernel
theorem dX10_line_5 : decode cX10_line 5 = .ok (.iload_n 2, 1) := by decide +kernel
theorem dX10_line_6 : decode cX10_line 6 = .ok (.invokevirtual 217, 3) := by decide +kernel
theorem dX10_line_9 : decode cX10_line 9 = .ok (.ifCond .ne 5, 3) := by decide +kernel
theorem dX10_line_12 : decode cX10_line 12 = .ok (.iconst 0, 1) := by decide +kernel
theorem dX10_line_13 : decode cX10_line 13 = .ok (.ireturn, 1) := by decide +kernel
theorem dX10_line_14 : decode cX10_line 14 = .ok (.aload_n 0, 1) := by decide +kernel
theorem dX10_line_15 : decode cX10_line 15 = .ok (.getfield 26, 3) := by decide +kernel
theorem dX10_line_18 : decode cX10_line 18 = .ok (.iload_n 1, 1) := by decide +kernel
theorem dX10_line_19 : decode cX10_line 19 = .ok (.bipush 8, 2) := by decide +kernel
theorem dX10_line_21 : decode cX10_line 21 = .ok (.imul, 1) := by decide +kernel
theorem dX10_line_22 : decode cX10_line 22 = .ok (.iload_n 2, 1) := by decide +kernel
theorem dX10_line_23 : decode cX10_line 23 = .ok (.iadd, 1) := by decide +kernel
theorem dX10_line_24 : decode cX10_line 24 = .ok (.iload_n 3, 1) := by decide +kernel
theorem dX10_line_25 : decode cX10_line 25 = .ok (.iload 4, 2) := by decide +kernel
theorem dX10_line_27 : decode cX10_line 27 = .ok (.iload 5, 2) := by decide +kernel
theorem dX10_line_29 : decode cX10_line 29 = .ok (.iload 6, 2) := by decide +kernel
theorem dX10_line_31 : decode cX10_line 31 = .ok (.invokevirtual 220, 3) := by decide +kernel
theorem dX10_line_34 : decode cX10_line 34 = .ok (.iconst 1, 1) := by decide +kernel
theorem dX10_line_35 : decode cX10_line 35 = .ok (.ireturn, 1) := by decide +kernel
theorem dX10_lay_0 : decode cX10_lay 0 = .ok (.aload_n 0, 1) := by decide +kernel
theorem dX10_lay_1 : decode cX10_lay 1 = .ok (.getfield 26, 3) := by decide +kernel
theorem dX10_lay_4 : decode cX10_lay 4 = .ok (.iload_n 1, 1) := by decide +kernel
theorem dX10_lay_5 : decode cX10_lay 5 = .ok (.invokevirtual 223, 3) := by decide +kernel
theorem dX10_lay_8 : decode cX10_lay 8 = .ok (.ifCond .ne 5, 3) := by decide +kernel
theorem dX10_lay_11 : decode cX10_lay 11 = .ok (.iconst (-1), 1) := by decide +kernel
theorem dX10_lay_12 : decode cX10_lay 12 = .ok (.ireturn, 1) := by decide +kernel
theorem dX10_lay_13 : decode cX10_lay 13 = .ok (.aload_n 0, 1) := by decide +kernel
theorem dX10_lay_14 : decode cX10_lay 14 = .ok (.getfield 26, 3) := by decide +kernel
theorem dX10_lay_17 : decode cX10_lay 17 = .ok (.getfield 224, 3) := by decide +kernel
theorem dX10_lay_20 : decode cX10_lay 20 = .ok (.iload_n 1, 1) := by decide +kernel
theorem dX10_lay_21 : decode cX10_lay 21 = .ok (.iaload, 1) := by decide +kernel
theorem dX10_lay_22 : decode cX10_lay 22 = .ok (.istore_n 2, 1) := by decide +kernel
theorem dX10_lay_23 : decode cX10_lay 23 = .ok (.iconst 0, 1) := by decide +kernel
theorem dX10_lay_24 : decode cX10_lay 24 = .ok (.istore_n 3, 1) := by decide +kernel
theorem dX10_lay_25 : decode cX10_lay 25 = .ok (.iload_n 3, 1) := by decide +kernel
theorem dX10_lay_26 : decode cX10_lay 26 = .ok (.iload_n 2, 1) := by decide +kernel
theorem dX10_lay_27 : decode cX10_lay 27 = .ok (.if_icmp .ge 23, 3) := by decide +kernel
theorem dX10_lay_30 : decode cX10_lay 30 = .ok (.aload_n 0, 1) := by decide +kernel
theorem dX10_lay_31 : decode cX10_lay 31 = .ok (.iload_n 1, 1) := by decide +kernel
theorem dX10_lay_32 : decode cX10_lay 32 = .ok (.iload_n 3, 1) := by decide +kernel
theorem dX10_lay_33 : decode cX10_lay 33 = .ok (.invokevirtual 227, 3) := by decide +kernel
theorem dX10_lay_36 : decode cX10_lay 36 = .ok (.ifCond .ne 8, 3) := by decide +kernel
theorem dX10_lay_39 : decode cX10_lay 39 = .ok (.bipush (-2), 2) := by decide +kernel
theorem dX10_lay_41 : decode cX10_lay 41 = .ok (.iload_n 3, 1) := by decide +kernel
theorem dX10_lay_42 : decode cX10_lay 42 = .ok (.isub, 1) := by decide +kernel
theorem dX10_lay_43 : decode cX10_lay 43 = .ok (.ireturn, 1) := by decide +kernel
theorem dX10_lay_44 : decode cX10_lay 44 = .ok (.iinc 3 1, 3) := by decide +kernel
theorem dX10_lay_47 : decode cX10_lay 47 = .ok (.goto (-22), 3) := by decide +kernel
theorem dX10_lay_50 : decode cX10_lay 50 = .ok (.aload_n 0, 1) := by decide +kernel
theorem dX10_lay_51 : decode cX10_lay 51 = .ok (.getfield 19, 3) := by decide +kernel
theorem dX10_lay_54 : decode cX10_lay 54 = .ok (.aload_n 0, 1) := by decide +kernel
theorem dX10_lay_55 : decode cX10_lay 55 = .ok (.getfield 10, 3) := by decide +kernel
theorem dX10_lay_58 : decode cX10_lay 58 = .ok (.invokevirtual 82, 3) := by decide +kernel
theorem dX10_lay_61 : decode cX10_lay 61 = .ok (.iconst 0, 1) := by decide +kernel
theorem dX10_lay_62 : decode cX10_lay 62 = .ok (.istore_n 3, 1) := by decide +kernel
theorem dX10_lay_63 : decode cX10_lay 63 = .ok (.iload_n 3, 1) := by decide +kernel
theorem dX10_lay_64 : decode cX10_lay 64 = .ok (.iload_n 2, 1) := by decide +kernel
theorem dX10_lay_65 : decode cX10_lay 65 = .ok (.if_icmp .ge 71, 3) := by decide +kernel
theorem dX10_lay_68 : decode cX10_lay 68 = .ok (.iload_n 1, 1) := by decide +kernel
theorem dX10_lay_69 : decode cX10_lay 69 = .ok (.bipush 8, 2) := by decide +kernel
theorem dX10_lay_71 : decode cX10_lay 71 = .ok (.imul, 1) := by decide +kernel
theorem dX10_lay_72 : decode cX10_lay 72 = .ok (.iload_n 3, 1) := by decide +kernel
theorem dX10_lay_73 : decode cX10_lay 73 = .ok (.iadd, 1) := by decide +kernel
theorem dX10_lay_74 : decode cX10_lay 74 = .ok (.istore 4, 2) := by decide +kernel
theorem dX10_lay_76 : decode cX10_lay 76 = .ok (.aload_n 0, 1) := by decide +kernel
theorem dX10_lay_77 : decode cX10_lay 77 = .ok (.getfield 10, 3) := by decide +kernel
theorem dX10_lay_80 : decode cX10_lay 80 = .ok (.aload_n 0, 1) := by decide +kernel
theorem dX10_lay_81 : decode cX10_lay 81 = .ok (.getfield 10, 3) := by decide +kernel
theorem dX10_lay_84 : decode cX10_lay 84 = .ok (.invokevirtual 104, 3) := by decide +kernel
theorem dX10_lay_87 : decode cX10_lay 87 = .ok (.aload_n 0, 1) := by decide +kernel
theorem dX10_lay_88 : decode cX10_lay 88 = .ok (.getfield 26, 3) := by decide +kernel
theorem dX10_lay_91 : decode cX10_lay 91 = .ok (.getfield 230, 3) := by decide +kernel
theorem dX10_lay_94 : decode cX10_lay 94 = .ok (.iload 4, 2) := by decide +kernel
theorem dX10_lay_96 : decode cX10_lay 96 = .ok (.iaload, 1) := by decide +kernel
theorem dX10_lay_97 : decode cX10_lay 97 = .ok (.aload_n 0, 1) := by decide +kernel
theorem dX10_lay_98 : decode cX10_lay 98 = .ok (.getfield 26, 3) := by decide +kernel
theorem dX10_lay_101 : decode cX10_lay 101 = .ok (.getfield 231, 3) := by decide +kernel
theorem dX10_lay_104 : decode cX10_lay 104 = .ok (.iload 4, 2) := by decide +kernel
theorem dX10_lay_106 : decode cX10_lay 106 = .ok (.iaload, 1) := by decide +kernel
theorem dX10_lay_107 : decode cX10_lay 107 = .ok (.aload_n 0, 1) := by decide +kernel
theorem dX10_lay_108 : decode cX10_lay 108 = .ok (.getfield 26, 3) := by decide +kernel
theorem dX10_lay_111 : decode cX10_lay 111 = .ok (.getfield 232, 3) := by decide +kernel
theorem dX10_lay_114 : decode cX10_lay 114 = .ok (.iload 4, 2) := by decide +kernel
theorem dX10_lay_116 : decode cX10_lay 116 = .ok (.iaload, 1) := by decide +kernel
theorem dX10_lay_117 : decode cX10_lay 117 = .ok (.aload_n 0, 1) := by decide +kernel
theorem dX10_lay_118 : decode cX10_lay 118 = .ok (.getfield 26, 3) := by decide +kernel
theorem dX10_lay_121 : decode cX10_lay 121 = .ok (.getfield 233, 3) := by decide +kernel
theorem dX10_lay_124 : decode cX10_lay 124 = .ok (.iload 4, 2) := by decide +kernel
theorem dX10_lay_126 : decode cX10_lay 126 = .ok (.iaload, 1) := by decide +kernel
theorem dX10_lay_127 : decode cX10_lay 127 = .ok (.invokevirtual 108, 3) := by decide +kernel
theorem dX10_lay_130 : decode cX10_lay 130 = .ok (.iinc 3 1, 3) := by decide +kernel
theorem dX10_lay_133 : decode cX10_lay 133 = .ok (.goto (-70), 3) := by decide +kernel
theorem dX10_lay_136 : decode cX10_lay 136 = .ok (.iload_n 2, 1) := by decide +kernel
theorem dX10_lay_137 : decode cX10_lay 137 = .ok (.ireturn, 1) := by decide +kernel
theorem dX10_undo_0 : decode cX10_undo 0 = .ok (.aload_n 0, 1) := by decide +kernel
theorem dX10_undo_1 : decode cX10_undo 1 = .ok (.getfield 19, 3) := by decide +kernel
theorem dX10_undo_4 : decode cX10_undo 4 = .ok (.aload_n 0, 1) := by decide +kernel
theorem dX10_undo_5 : decode cX10_undo 5 = .ok (.getfield 10, 3) := by decide +kernel
theorem dX10_undo_8 : decode cX10_undo 8 = .ok (.invokevirtual 234, 3) := by decide +kernel
theorem dX10_undo_11 : decode cX10_undo 11 = .ok (.ifCond .eq 13, 3) := by decide +kernel
theorem dX10_undo_14 : decode cX10_undo 14 = .ok (.aload_n 0, 1) := by decide +kernel
theorem dX10_undo_15 : decode cX10_undo 15 = .ok (.getfield 19, 3) := by decide +kernel
theorem dX10_undo_18 : decode cX10_undo 18 = .ok (.getfield 141, 3) := by decide +kernel
theorem dX10_undo_21 : decode cX10_undo 21 = .ok (.goto 4, 3) := by decide +kernel
theorem dX10_undo_24 : decode cX10_undo 24 = .ok (.iconst (-1), 1) := by decide +kernel
theorem dX10_undo_25 : decode cX10_undo 25 = .ok (.ireturn, 1) := by decide +kernel
theorem dX10_areTwo_0 : decode cX10_areTwo 0 = .ok (.iload_n 1, 1) := by decide +kernel
theorem dX10_areTwo_1 : decode cX10_areTwo 1 = .ok (.iload_n 2, 1) := by decide +kernel
theorem dX10_areTwo_2 : decode cX10_areTwo 2 = .ok (.if_icmp .eq 29, 3) := by decide +kernel
theorem dX10_areTwo_5 : decode cX10_areTwo 5 = .ok (.aload_n 0, 1) := by decide +kernel
theorem dX10_areTwo_6 : decode cX10_areTwo 6 = .ok (.getfield 10, 3) := by decide +kernel
theorem dX10_areTwo_9 : decode cX10_areTwo 9 = .ok (.iload_n 1, 1) := by decide +kernel
theorem dX10_areTwo_10 : decode cX10_areTwo 10 = .ok (.invokevirtual 112, 3) := by decide +kernel
theorem dX10_areTwo_13 : decode cX10_areTwo 13 = .ok (.ifCond .eq 18, 3) := by decide +kernel
theorem dX10_areTwo_16 : decode cX10_areTwo 16 = .ok (.aload_n 0, 1) := by decide +kernel
theorem dX10_areTwo_17 : decode cX10_areTwo 17 = .ok (.getfield 10, 3) := by decide +kernel
theorem dX10_areTwo_20 : decode cX10_areTwo 20 = .ok (.iload_n 2, 1) := by decide +kernel
theorem dX10_areTwo_21 : decode cX10_areTwo 21 = .ok (.invokevirtual 112, 3) := by decide +kernel
theorem dX10_areTwo_24 : decode cX10_areTwo 24 = .ok (.ifCond .eq 7, 3) := by decide +kernel
theorem dX10_areTwo_27 : decode cX10_areTwo 27 = .ok (.iconst 1, 1) := by decide +kernel
theorem dX10_areTwo_28 : decode cX10_areTwo 28 = .ok (.goto 4, 3) := by decide +kernel
theorem dX10_areTwo_31 : decode cX10_areTwo 31 = .ok (.iconst 0, 1) := by decide +kernel
theorem dX10_areTwo_32 : decode cX10_areTwo 32 = .ok (.ireturn, 1) := by decide +kernel
theorem dX10_isPoint_0 : decode cX10_isPoint 0 = .ok (.iload_n 3, 1) := by decide +kernel
theorem dX10_isPoint_1 : decode cX10_isPoint 1 = .ok (.iconst 1, 1) := by decide +kernel
theorem dX10_isPoint_2 : decode cX10_isPoint 2 = .ok (.if_icmp .lt 48, 3) := by decide +kernel
theorem dX10_isPoint_5 : decode cX10_isPoint 5 = .ok (.iload_n 3, 1) := by decide +kernel
theorem dX10_isPoint_6 : decode cX10_isPoint 6 = .ok (.sipush 1000, 3) := by decide +kernel
theorem dX10_isPoint_9 : decode cX10_isPoint 9 = .ok (.if_icmp .gt 41, 3) := by decide +kernel
theorem dX10_isPoint_12 : decode cX10_isPoint 12 = .ok (.iload_n 1, 1) := by decide +kernel
theorem dX10_isPoint_13 : decode cX10_isPoint 13 = .ok (.ifCond .lt 37, 3) := by decide +kernel
theorem dX10_isPoint_16 : decode cX10_isPoint 16 = .ok (.iload_n 1, 1) := by decide +kernel
theorem dX10_isPoint_17 : decode cX10_isPoint 17 = .ok (.aload_n 0, 1) := by decide +kernel
theorem dX10_isPoint_18 : decode cX10_isPoint 18 = .ok (.getfield 10, 3) := by decide +kernel
theorem dX10_isPoint_21 : decode cX10_isPoint 21 = .ok (.getfield 238, 3) := by decide +kernel
theorem dX10_isPoint_24 : decode cX10_isPoint 24 = .ok (.iload_n 3, 1) := by decide +kernel
theorem dX10_isPoint_25 : decode cX10_isPoint 25 = .ok (.imul, 1) := by decide +kernel
theorem dX10_isPoint_26 : decode cX10_isPoint 26 = .ok (.if_icmp .gt 24, 3) := by decide +kernel
theorem dX10_isPoint_29 : decode cX10_isPoint 29 = .ok (.iload_n 2, 1) := by decide +kernel
theorem dX10_isPoint_30 : decode cX10_isPoint 30 = .ok (.ifCond .lt 20, 3) := by decide +kernel
theorem dX10_isPoint_33 : decode cX10_isPoint 33 = .ok (.iload_n 2, 1) := by decide +kernel
theorem dX10_isPoint_34 : decode cX10_isPoint 34 = .ok (.aload_n 0, 1) := by decide +kernel
theorem dX10_isPoint_35 : decode cX10_isPoint 35 = .ok (.getfield 10, 3) := by decide +kernel
theorem dX10_isPoint_38 : decode cX10_isPoint 38 = .ok (.getfield 241, 3) := by decide +kernel
theorem dX10_isPoint_41 : decode cX10_isPoint 41 = .ok (.iload_n 3, 1) := by decide +kernel
theorem dX10_isPoint_42 : decode cX10_isPoint 42 = .ok (.imul, 1) := by decide +kernel
theorem dX10_isPoint_43 : decode cX10_isPoint 43 = .ok (.if_icmp .gt 7, 3) := by decide +kernel
theorem dX10_isPoint_46 : decode cX10_isPoint 46 = .ok (.iconst 1, 1) := by decide +kernel
theorem dX10_isPoint_47 : decode cX10_isPoint 47 = .ok (.goto 4, 3) := by decide +kernel
theorem dX10_isPoint_50 : decode cX10_isPoint 50 = .ok (.iconst 0, 1) := by decide +kernel
theorem dX10_isPoint_51 : decode cX10_isPoint 51 = .ok (.ireturn, 1) := by decide +kernel
theorem dX10_tellCosts_0 : decode cX10_tellCosts 0 = .ok (.iconst 0, 1) := by decide +kernel
theorem dX10_tellCosts_1 : decode cX10_tellCosts 1 = .ok (.istore 4, 2) := by decide +kernel
theorem dX10_tellCosts_3 : decode cX10_tellCosts 3 = .ok (.iload 4, 2) := by decide +kernel
theorem dX10_tellCosts_5 : decode cX10_tellCosts 5 = .ok (.aload_n 0, 1) := by decide +kernel
theorem dX10_tellCosts_6 : decode cX10_tellCosts 6 = .ok (.getfield 10, 3) := by decide +kernel
theorem dX10_tellCosts_9 : decode cX10_tellCosts 9 = .ok (.getfield 138, 3) := by decide +kernel
theorem dX10_tellCosts_12 : decode cX10_tellCosts 12 = .ok (.if_icmp .ge 94, 3) := by decide +kernel
theorem dX10_tellCosts_15 : decode cX10_tellCosts 15 = .ok (.aload_n 0, 1) := by decide +kernel
theorem dX10_tellCosts_16 : decode cX10_tellCosts 16 = .ok (.getfield 10, 3) := by decide +kernel
theorem dX10_tellCosts_19 : decode cX10_tellCosts 19 = .ok (.getfield 154, 3) := by decide +kernel
theorem dX10_tellCosts_22 : decode cX10_tellCosts 22 = .ok (.iload 4, 2) := by decide +kernel
theorem dX10_tellCosts_24 : decode cX10_tellCosts 24 = .ok (.iaload, 1) := by decide +kernel
theorem dX10_tellCosts_25 : decode cX10_tellCosts 25 = .ok (.istore 5, 2) := by decide +kernel
theorem dX10_tellCosts_27 : decode cX10_tellCosts 27 = .ok (.iload_n 1, 1) := by decide +kernel
theorem dX10_tellCosts_28 : decode cX10_tellCosts 28 = .ok (.i2l, 1) := by decide +kernel
theorem dX10_tellCosts_29 : decode cX10_tellCosts 29 = .ok (.iload_n 3, 1) := by decide +kernel
theorem dX10_tellCosts_30 : decode cX10_tellCosts 30 = .ok (.i2l, 1) := by decide +kernel
theorem dX10_tellCosts_31 : decode cX10_tellCosts 31 = .ok (.aload_n 0, 1) := by decide +kernel
theorem dX10_tellCosts_32 : decode cX10_tellCosts 32 = .ok (.getfield 10, 3) := by decide +kernel
theorem dX10_tellCosts_35 : decode cX10_tellCosts 35 = .ok (.getfield 126, 3) := by decide +kernel
theorem dX10_tellCosts_38 : decode cX10_tellCosts 38 = .ok (.iload 5, 2) := by decide +kernel
theorem dX10_tellCosts_40 : decode cX10_tellCosts 40 = .ok (.iaload, 1) := by decide +kernel
theorem dX10_tellCosts_41 : decode cX10_tellCosts 41 = .ok (.i2l, 1) := by decide +kernel
theorem dX10_tellCosts_42 : decode cX10_tellCosts 42 = .ok (.lmul, 1) := by decide +kernel
theorem dX10_tellCosts_43 : decode cX10_tellCosts 43 = .ok (.lsub, 1) := by decide +kernel
theorem dX10_tellCosts_44 : decode cX10_tellCosts 44 = .ok (.lstore 6, 2) := by decide +kernel
theorem dX10_tellCosts_46 : decode cX10_tellCosts 46 = .ok (.iload_n 2, 1) := by decide +kernel
theorem dX10_tellCosts_47 : decode cX10_tellCosts 47 = .ok (.i2l, 1) := by decide +kernel
theorem dX10_tellCosts_48 : decode cX10_tellCosts 48 = .ok (.iload_n 3, 1) := by decide +kernel
theorem dX10_tellCosts_49 : decode cX10_tellCosts 49 = .ok (.i2l, 1) := by decide +kernel
theorem dX10_tellCosts_50 : decode cX10_tellCosts 50 = .ok (.aload_n 0, 1) := by decide +kernel
theorem dX10_tellCosts_51 : decode cX10_tellCosts 51 = .ok (.getfield 10, 3) := by decide +kernel
theorem dX10_tellCosts_54 : decode cX10_tellCosts 54 = .ok (.getfield 129, 3) := by decide +kernel
theorem dX10_tellCosts_57 : decode cX10_tellCosts 57 = .ok (.iload 5, 2) := by decide +kernel
theorem dX10_tellCosts_59 : decode cX10_tellCosts 59 = .ok (.iaload, 1) := by decide +kernel
theorem dX10_tellCosts_60 : decode cX10_tellCosts 60 = .ok (.i2l, 1) := by decide +kernel
theorem dX10_tellCosts_61 : decode cX10_tellCosts 61 = .ok (.lmul, 1) := by decide +kernel
theorem dX10_tellCosts_62 : decode cX10_tellCosts 62 = .ok (.lsub, 1) := by decide +kernel
theorem dX10_tellCosts_63 : decode cX10_tellCosts 63 = .ok (.lstore 8, 2) := by decide +kernel
theorem dX10_tellCosts_65 : decode cX10_tellCosts 65 = .ok (.aload_n 0, 1) := by decide +kernel
theorem dX10_tellCosts_66 : decode cX10_tellCosts 66 = .ok (.getfield 74, 3) := by decide +kernel
theorem dX10_tellCosts_69 : decode cX10_tellCosts 69 = .ok (.iload 4, 2) := by decide +kernel
theorem dX10_tellCosts_71 : decode cX10_tellCosts 71 = .ok (.lload 6, 2) := by decide +kernel
theorem dX10_tellCosts_73 : decode cX10_tellCosts 73 = .ok (.lload 6, 2) := by decide +kernel
theorem dX10_tellCosts_75 : decode cX10_tellCosts 75 = .ok (.lmul, 1) := by decide +kernel
theorem dX10_tellCosts_76 : decode cX10_tellCosts 76 = .ok (.lload 8, 2) := by decide +kernel
theorem dX10_tellCosts_78 : decode cX10_tellCosts 78 = .ok (.lload 8, 2) := by decide +kernel
theorem dX10_tellCosts_80 : decode cX10_tellCosts 80 = .ok (.lmul, 1) := by decide +kernel
theorem dX10_tellCosts_81 : decode cX10_tellCosts 81 = .ok (.ladd, 1) := by decide +kernel
theorem dX10_tellCosts_82 : decode cX10_tellCosts 82 = .ok (.iload_n 3, 1) := by decide +kernel
theorem dX10_tellCosts_83 : decode cX10_tellCosts 83 = .ok (.i2l, 1) := by decide +kernel
theorem dX10_tellCosts_84 : decode cX10_tellCosts 84 = .ok (.iload_n 3, 1) := by decide +kernel
theorem dX10_tellCosts_85 : decode cX10_tellCosts 85 = .ok (.i2l, 1) := by decide +kernel
theorem dX10_tellCosts_86 : decode cX10_tellCosts 86 = .ok (.lmul, 1) := by decide +kernel
theorem dX10_tellCosts_87 : decode cX10_tellCosts 87 = .ok (.aload_n 0, 1) := by decide +kernel
theorem dX10_tellCosts_88 : decode cX10_tellCosts 88 = .ok (.getfield 10, 3) := by decide +kernel
theorem dX10_tellCosts_91 : decode cX10_tellCosts 91 = .ok (.iload 5, 2) := by decide +kernel
theorem dX10_tellCosts_93 : decode cX10_tellCosts 93 = .ok (.invokevirtual 244, 3) := by decide +kernel
theorem dX10_tellCosts_96 : decode cX10_tellCosts 96 = .ok (.i2l, 1) := by decide +kernel
theorem dX10_tellCosts_97 : decode cX10_tellCosts 97 = .ok (.lmul, 1) := by decide +kernel
theorem dX10_tellCosts_98 : decode cX10_tellCosts 98 = .ok (.lsub, 1) := by decide +kernel
theorem dX10_tellCosts_99 : decode cX10_tellCosts 99 = .ok (.lastore, 1) := by decide +kernel
theorem dX10_tellCosts_100 : decode cX10_tellCosts 100 = .ok (.iinc 4 1, 3) := by decide +kernel
theorem dX10_tellCosts_103 : decode cX10_tellCosts 103 = .ok (.goto (-100), 3) := by decide +kernel
theorem dX10_tellCosts_106 : decode cX10_tellCosts 106 = .ok (.return_, 1) := by decide +kernel
theorem dX10_rankOf_0 : decode cX10_rankOf 0 = .ok (.iconst 0, 1) := by decide +kernel
theorem dX10_rankOf_1 : decode cX10_rankOf 1 = .ok (.istore_n 3, 1) := by decide +kernel
theorem dX10_rankOf_2 : decode cX10_rankOf 2 = .ok (.iconst 0, 1) := by decide +kernel
theorem dX10_rankOf_3 : decode cX10_rankOf 3 = .ok (.istore 4, 2) := by decide +kernel
theorem dX10_rankOf_5 : decode cX10_rankOf 5 = .ok (.iload 4, 2) := by decide +kernel
theorem dX10_rankOf_7 : decode cX10_rankOf 7 = .ok (.aload_n 0, 1) := by decide +kernel
theorem dX10_rankOf_8 : decode cX10_rankOf 8 = .ok (.getfield 10, 3) := by decide +kernel
theorem dX10_rankOf_11 : decode cX10_rankOf 11 = .ok (.getfield 138, 3) := by decide +kernel
theorem dX10_rankOf_14 : decode cX10_rankOf 14 = .ok (.if_icmp .ge 56, 3) := by decide +kernel
theorem dX10_rankOf_17 : decode cX10_rankOf 17 = .ok (.aload_n 0, 1) := by decide +kernel
theorem dX10_rankOf_18 : decode cX10_rankOf 18 = .ok (.getfield 74, 3) := by decide +kernel
theorem dX10_rankOf_21 : decode cX10_rankOf 21 = .ok (.iload 4, 2) := by decide +kernel
theorem dX10_rankOf_23 : decode cX10_rankOf 23 = .ok (.laload, 1) := by decide +kernel
theorem dX10_rankOf_24 : decode cX10_rankOf 24 = .ok (.aload_n 0, 1) := by decide +kernel
theorem dX10_rankOf_25 : decode cX10_rankOf 25 = .ok (.getfield 74, 3) := by decide +kernel
theorem dX10_rankOf_28 : decode cX10_rankOf 28 = .ok (.iload_n 1, 1) := by decide +kernel
theorem dX10_rankOf_29 : decode cX10_rankOf 29 = .ok (.laload, 1) := by decide +kernel
theorem dX10_rankOf_30 : decode cX10_rankOf 30 = .ok (.lcmp, 1) := by decide +kernel
theorem dX10_rankOf_31 : decode cX10_rankOf 31 = .ok (.ifCond .lt 30, 3) := by decide +kernel
theorem dX10_rankOf_34 : decode cX10_rankOf 34 = .ok (.iload_n 2, 1) := by decide +kernel
theorem dX10_rankOf_35 : decode cX10_rankOf 35 = .ok (.ifCond .eq 29, 3) := by decide +kernel
theorem dX10_rankOf_38 : decode cX10_rankOf 38 = .ok (.iload 4, 2) := by decide +kernel
theorem dX10_rankOf_40 : decode cX10_rankOf 40 = .ok (.iload_n 1, 1) := by decide +kernel
theorem dX10_rankOf_41 : decode cX10_rankOf 41 = .ok (.if_icmp .ge 23, 3) := by decide +kernel
theorem dX10_rankOf_44 : decode cX10_rankOf 44 = .ok (.aload_n 0, 1) := by decide +kernel
theorem dX10_rankOf_45 : decode cX10_rankOf 45 = .ok (.getfield 74, 3) := by decide +kernel
theorem dX10_rankOf_48 : decode cX10_rankOf 48 = .ok (.iload 4, 2) := by decide +kernel
theorem dX10_rankOf_50 : decode cX10_rankOf 50 = .ok (.laload, 1) := by decide +kernel
theorem dX10_rankOf_51 : decode cX10_rankOf 51 = .ok (.aload_n 0, 1) := by decide +kernel
theorem dX10_rankOf_52 : decode cX10_rankOf 52 = .ok (.getfield 74, 3) := by decide +kernel
theorem dX10_rankOf_55 : decode cX10_rankOf 55 = .ok (.iload_n 1, 1) := by decide +kernel
theorem dX10_rankOf_56 : decode cX10_rankOf 56 = .ok (.laload, 1) := by decide +kernel
theorem dX10_rankOf_57 : decode cX10_rankOf 57 = .ok (.lcmp, 1) := by decide +kernel
theorem dX10_rankOf_58 : decode cX10_rankOf 58 = .ok (.ifCond .ne 6, 3) := by decide +kernel
theorem dX10_rankOf_61 : decode cX10_rankOf 61 = .ok (.iinc 3 1, 3) := by decide +kernel
theorem dX10_rankOf_64 : decode cX10_rankOf 64 = .ok (.iinc 4 1, 3) := by decide +kernel
theorem dX10_rankOf_67 : decode cX10_rankOf 67 = .ok (.goto (-62), 3) := by decide +kernel
theorem dX10_rankOf_70 : decode cX10_rankOf 70 = .ok (.iload_n 3, 1) := by decide +kernel
theorem dX10_rankOf_71 : decode cX10_rankOf 71 = .ok (.ireturn, 1) := by decide +kernel
theorem dX10_maySink_0 : decode cX10_maySink 0 = .ok (.iload_n 1, 1) := by decide +kernel
theorem dX10_maySink_1 : decode cX10_maySink 1 = .ok (.bipush 8, 2) := by decide +kernel
theorem dX10_maySink_3 : decode cX10_maySink 3 = .ok (.imul, 1) := by decide +kernel
theorem dX10_maySink_4 : decode cX10_maySink 4 = .ok (.iload_n 2, 1) := by decide +kernel
theorem dX10_maySink_5 : decode cX10_maySink 5 = .ok (.iadd, 1) := by decide +kernel
theorem dX10_maySink_6 : decode cX10_maySink 6 = .ok (.istore_n 3, 1) := by decide +kernel
theorem dX10_maySink_7 : decode cX10_maySink 7 = .ok (.aload_n 0, 1) := by decide +kernel
theorem dX10_maySink_8 : decode cX10_maySink 8 = .ok (.getfield 10, 3) := by decide +kernel
theorem dX10_maySink_11 : decode cX10_maySink 11 = .ok (.aload_n 0, 1) := by decide +kernel
theorem dX10_maySink_12 : decode cX10_maySink 12 = .ok (.getfield 26, 3) := by decide +kernel
theorem dX10_maySink_15 : decode cX10_maySink 15 = .ok (.getfield 230, 3) := by decide +kernel
theorem dX10_maySink_18 : decode cX10_maySink 18 = .ok (.iload_n 3, 1) := by decide +kernel
theorem dX10_maySink_19 : decode cX10_maySink 19 = .ok (.iaload, 1) := by decide +kernel
theorem dX10_maySink_20 : decode cX10_maySink 20 = .ok (.aload_n 0, 1) := by decide +kernel
theorem dX10_maySink_21 : decode cX10_maySink 21 = .ok (.getfield 26, 3) := by decide +kernel
theorem dX10_maySink_24 : decode cX10_maySink 24 = .ok (.getfield 231, 3) := by decide +kernel
theorem dX10_maySink_27 : decode cX10_maySink 27 = .ok (.iload_n 3, 1) := by decide +kernel
theorem dX10_maySink_28 : decode cX10_maySink 28 = .ok (.iaload, 1) := by decide +kernel
theorem dX10_maySink_29 : decode cX10_maySink 29 = .ok (.aload_n 0, 1) := by decide +kernel
theorem dX10_maySink_30 : decode cX10_maySink 30 = .ok (.getfield 26, 3) := by decide +kernel
theorem dX10_maySink_33 : decode cX10_maySink 33 = .ok (.getfield 232, 3) := by decide +kernel
theorem dX10_maySink_36 : decode cX10_maySink 36 = .ok (.iload_n 3, 1) := by decide +kernel
theorem dX10_maySink_37 : decode cX10_maySink 37 = .ok (.iaload, 1) := by decide +kernel
theorem dX10_maySink_38 : decode cX10_maySink 38 = .ok (.aload_n 0, 1) := by decide +kernel
theorem dX10_maySink_39 : decode cX10_maySink 39 = .ok (.getfield 26, 3) := by decide +kernel
theorem dX10_maySink_42 : decode cX10_maySink 42 = .ok (.getfield 233, 3) := by decide +kernel
theorem dX10_maySink_45 : decode cX10_maySink 45 = .ok (.iload_n 3, 1) := by decide +kernel
theorem dX10_maySink_46 : decode cX10_maySink 46 = .ok (.iaload, 1) := by decide +kernel
theorem dX10_maySink_47 : decode cX10_maySink 47 = .ok (.invokevirtual 97, 3) := by decide +kernel
theorem dX10_maySink_50 : decode cX10_maySink 50 = .ok (.ifCond .eq 61, 3) := by decide +kernel
theorem dX10_maySink_53 : decode cX10_maySink 53 = .ok (.aload_n 0, 1) := by decide +kernel
theorem dX10_maySink_54 : decode cX10_maySink 54 = .ok (.getfield 10, 3) := by decide +kernel
theorem dX10_maySink_57 : decode cX10_maySink 57 = .ok (.aload_n 0, 1) := by decide +kernel
theorem dX10_maySink_58 : decode cX10_maySink 58 = .ok (.getfield 26, 3) := by decide +kernel
theorem dX10_maySink_61 : decode cX10_maySink 61 = .ok (.getfield 230, 3) := by decide +kernel
theorem dX10_maySink_64 : decode cX10_maySink 64 = .ok (.iload_n 3, 1) := by decide +kernel
theorem dX10_maySink_65 : decode cX10_maySink 65 = .ok (.iaload, 1) := by decide +kernel
theorem dX10_maySink_66 : decode cX10_maySink 66 = .ok (.aload_n 0, 1) := by decide +kernel
theorem dX10_maySink_67 : decode cX10_maySink 67 = .ok (.getfield 26, 3) := by decide +kernel
theorem dX10_maySink_70 : decode cX10_maySink 70 = .ok (.getfield 231, 3) := by decide +kernel
theorem dX10_maySink_73 : decode cX10_maySink 73 = .ok (.iload_n 3, 1) := by decide +kernel
theorem dX10_maySink_74 : decode cX10_maySink 74 = .ok (.iaload, 1) := by decide +kernel
theorem dX10_maySink_75 : decode cX10_maySink 75 = .ok (.invokevirtual 101, 3) := by decide +kernel
theorem dX10_maySink_78 : decode cX10_maySink 78 = .ok (.ifCond .ne 33, 3) := by decide +kernel
theorem dX10_maySink_81 : decode cX10_maySink 81 = .ok (.aload_n 0, 1) := by decide +kernel
theorem dX10_maySink_82 : decode cX10_maySink 82 = .ok (.getfield 26, 3) := by decide +kernel
theorem dX10_maySink_85 : decode cX10_maySink 85 = .ok (.iload_n 1, 1) := by decide +kernel
theorem dX10_maySink_86 : decode cX10_maySink 86 = .ok (.iload_n 2, 1) := by decide +kernel
theorem dX10_maySink_87 : decode cX10_maySink 87 = .ok (.invokevirtual 247, 3) := by decide +kernel
theorem dX10_maySink_90 : decode cX10_maySink 90 = .ok (.ifCond .ne 21, 3) := by decide +kernel
theorem dX10_maySink_93 : decode cX10_maySink 93 = .ok (.aload_n 0, 1) := by decide +kernel
theorem dX10_maySink_94 : decode cX10_maySink 94 = .ok (.getfield 10, 3) := by decide +kernel
theorem dX10_maySink_97 : decode cX10_maySink 97 = .ok (.getfield 116, 3) := by decide +kernel
theorem dX10_maySink_100 : decode cX10_maySink 100 = .ok (.iload_n 2, 1) := by decide +kernel
theorem dX10_maySink_101 : decode cX10_maySink 101 = .ok (.iadd, 1) := by decide +kernel
theorem dX10_maySink_102 : decode cX10_maySink 102 = .ok (.bipush 24, 2) := by decide +kernel
theorem dX10_maySink_104 : decode cX10_maySink 104 = .ok (.if_icmp .ge 7, 3) := by decide +kernel
theorem dX10_maySink_107 : decode cX10_maySink 107 = .ok (.iconst 1, 1) := by decide +kernel
theorem dX10_maySink_108 : decode cX10_maySink 108 = .ok (.goto 4, 3) := by decide +kernel
theorem dX10_maySink_111 : decode cX10_maySink 111 = .ok (.iconst 0, 1) := by decide +kernel
theorem dX10_maySink_112 : decode cX10_maySink 112 = .ok (.ireturn, 1) := by decide +kernel
theorem dX10_mayHave_0 : decode cX10_mayHave 0 = .ok (.iload_n 0, 1) := by decide +kernel
theorem dX10_mayHave_1 : decode cX10_mayHave 1 = .ok (.ifCond .lt 33, 3) := by decide +kernel
theorem dX10_mayHave_4 : decode cX10_mayHave 4 = .ok (.iload_n 0, 1) := by decide +kernel
theorem dX10_mayHave_5 : decode cX10_mayHave 5 = .ok (.getstatic 250, 3) := by decide +kernel
theorem dX10_mayHave_8 : decode cX10_mayHave 8 = .ok (.arraylength, 1) := by decide +kernel
theorem dX10_mayHave_9 : decode cX10_mayHave 9 = .ok (.if_icmp .ge 25, 3) := by decide +kernel
theorem dX10_mayHave_12 : decode cX10_mayHave 12 = .ok (.iload_n 1, 1) := by decide +kernel
theorem dX10_mayHave_13 : decode cX10_mayHave 13 = .ok (.getstatic 250, 3) := by decide +kernel
theorem dX10_mayHave_16 : decode cX10_mayHave 16 = .ok (.iload_n 0, 1) := by decide +kernel
theorem dX10_mayHave_17 : decode cX10_mayHave 17 = .ok (.iaload, 1) := by decide +kernel
theorem dX10_mayHave_18 : decode cX10_mayHave 18 = .ok (.if_icmp .lt 16, 3) := by decide +kernel
theorem dX10_mayHave_21 : decode cX10_mayHave 21 = .ok (.iload_n 1, 1) := by decide +kernel
theorem dX10_mayHave_22 : decode cX10_mayHave 22 = .ok (.getstatic 253, 3) := by decide +kernel
theorem dX10_mayHave_25 : decode cX10_mayHave 25 = .ok (.iload_n 0, 1) := by decide +kernel
theorem dX10_mayHave_26 : decode cX10_mayHave 26 = .ok (.iaload, 1) := by decide +kernel
theorem dX10_mayHave_27 : decode cX10_mayHave 27 = .ok (.if_icmp .gt 7, 3) := by decide +kernel
theorem dX10_mayHave_30 : decode cX10_mayHave 30 = .ok (.iconst 1, 1) := by decide +kernel
theorem dX10_mayHave_31 : decode cX10_mayHave 31 = .ok (.goto 4, 3) := by decide +kernel
theorem dX10_mayHave_34 : decode cX10_mayHave 34 = .ok (.iconst 0, 1) := by decide +kernel
theorem dX10_mayHave_35 : decode cX10_mayHave 35 = .ok (.ireturn, 1) := by decide +kernel
theorem dX10_greatestDivisor_0 : decode cX10_greatestDivisor 0 = .ok (.lload_n 0, 1) := by decide +kernel
theorem dX10_greatestDivisor_1 : decode cX10_greatestDivisor 1 = .ok (.invokestatic 256, 3) := by decide +kernel
theorem dX10_greatestDivisor_4 : decode cX10_greatestDivisor 4 = .ok (.lstore 4, 2) := by decide +kernel
theorem dX10_greatestDivisor_6 : decode cX10_greatestDivisor 6 = .ok (.lload_n 2, 1) := by decide +kernel
theorem dX10_greatestDivisor_7 : decode cX10_greatestDivisor 7 = .ok (.invokestatic 256, 3) := by decide +kernel
theorem dX10_greatestDivisor_10 : decode cX10_greatestDivisor 10 = .ok (.lstore 6, 2) := by decide +kernel
theorem dX10_greatestDivisor_12 : decode cX10_greatestDivisor 12 = .ok (.iconst 0, 1) := by decide +kernel
theorem dX10_greatestDivisor_13 : decode cX10_greatestDivisor 13 = .ok (.istore 8, 2) := by decide +kernel
theorem dX10_greatestDivisor_15 : decode cX10_greatestDivisor 15 = .ok (.iload 8, 2) := by decide +kernel
theorem dX10_greatestDivisor_17 : decode cX10_greatestDivisor 17 = .ok (.sipush 200, 3) := by decide +kernel
theorem dX10_greatestDivisor_20 : decode cX10_greatestDivisor 20 = .ok (.if_icmp .ge 31, 3) := by decide +kernel
theorem dX10_greatestDivisor_23 : decode cX10_greatestDivisor 23 = .ok (.lload 6, 2) := by decide +kernel
theorem dX10_greatestDivisor_25 : decode cX10_greatestDivisor 25 = .ok (.lconst 0, 1) := by decide +kernel
theorem dX10_greatestDivisor_26 : decode cX10_greatestDivisor 26 = .ok (.lcmp, 1) := by decide +kernel
theorem dX10_greatestDivisor_27 : decode cX10_greatestDivisor 27 = .ok (.ifCond .eq 24, 3) := by decide +kernel
theorem dX10_greatestDivisor_30 : decode cX10_greatestDivisor 30 = .ok (.lload 4, 2) := by decide +kernel
theorem dX10_greatestDivisor_32 : decode cX10_greatestDivisor 32 = .ok (.lload 6, 2) := by decide +kernel
theorem dX10_greatestDivisor_34 : decode cX10_greatestDivisor 34 = .ok (.lrem, 1) := by decide +kernel
theorem dX10_greatestDivisor_35 : decode cX10_greatestDivisor 35 = .ok (.lstore 9, 2) := by decide +kernel
theorem dX10_greatestDivisor_37 : decode cX10_greatestDivisor 37 = .ok (.lload 6, 2) := by decide +kernel
theorem dX10_greatestDivisor_39 : decode cX10_greatestDivisor 39 = .ok (.lstore 4, 2) := by decide +kernel
theorem dX10_greatestDivisor_41 : decode cX10_greatestDivisor 41 = .ok (.lload 9, 2) := by decide +kernel
theorem dX10_greatestDivisor_43 : decode cX10_greatestDivisor 43 = .ok (.lstore 6, 2) := by decide +kernel
theorem dX10_greatestDivisor_45 : decode cX10_greatestDivisor 45 = .ok (.iinc 8 1, 3) := by decide +kernel
theorem dX10_greatestDivisor_48 : decode cX10_greatestDivisor 48 = .ok (.goto (-33), 3) := by decide +kernel
theorem dX10_greatestDivisor_51 : decode cX10_greatestDivisor 51 = .ok (.lload 4, 2) := by decide +kernel
theorem dX10_greatestDivisor_53 : decode cX10_greatestDivisor 53 = .ok (.lreturn, 1) := by decide +kernel
theorem dX10_above_0 : decode cX10_above 0 = .ok (.lload_n 0, 1) := by decide +kernel
theorem dX10_above_1 : decode cX10_above 1 = .ok (.lload_n 2, 1) := by decide +kernel
theorem dX10_above_2 : decode cX10_above 2 = .ok (.invokestatic 262, 3) := by decide +kernel
theorem dX10_above_5 : decode cX10_above 5 = .ok (.lstore 4, 2) := by decide +kernel
theorem dX10_above_7 : decode cX10_above 7 = .ok (.lload 4, 2) := by decide +kernel
theorem dX10_above_9 : decode cX10_above 9 = .ok (.lconst 0, 1) := by decide +kernel
theorem dX10_above_10 : decode cX10_above 10 = .ok (.lcmp, 1) := by decide +kernel
theorem dX10_above_11 : decode cX10_above 11 = .ok (.ifCond .ne 7, 3) := by decide +kernel
theorem dX10_above_14 : decode cX10_above 14 = .ok (.lload_n 0, 1) := by decide +kernel
theorem dX10_above_15 : decode cX10_above 15 = .ok (.goto 7, 3) := by decide +kernel
theorem dX10_above_18 : decode cX10_above 18 = .ok (.lload_n 0, 1) := by decide +kernel
theorem dX10_above_19 : decode cX10_above 19 = .ok (.lload 4, 2) := by decide +kernel
theorem dX10_above_21 : decode cX10_above 21 = .ok (.ldiv, 1) := by decide +kernel
theorem dX10_above_22 : decode cX10_above 22 = .ok (.lreturn, 1) := by decide +kernel
theorem dX10_below_0 : decode cX10_below 0 = .ok (.lload_n 0, 1) := by decide +kernel
theorem dX10_below_1 : decode cX10_below 1 = .ok (.lload_n 2, 1) := by decide +kernel
theorem dX10_below_2 : decode cX10_below 2 = .ok (.invokestatic 262, 3) := by decide +kernel
theorem dX10_below_5 : decode cX10_below 5 = .ok (.lstore 4, 2) := by decide +kernel
theorem dX10_below_7 : decode cX10_below 7 = .ok (.lload 4, 2) := by decide +kernel
theorem dX10_below_9 : decode cX10_below 9 = .ok (.lconst 0, 1) := by decide +kernel
theorem dX10_below_10 : decode cX10_below 10 = .ok (.lcmp, 1) := by decide +kernel
theorem dX10_below_11 : decode cX10_below 11 = .ok (.ifCond .ne 7, 3) := by decide +kernel
theorem dX10_below_14 : decode cX10_below 14 = .ok (.lload_n 2, 1) := by decide +kernel
theorem dX10_below_15 : decode cX10_below 15 = .ok (.goto 7, 3) := by decide +kernel
theorem dX10_below_18 : decode cX10_below 18 = .ok (.lload_n 2, 1) := by decide +kernel
theorem dX10_below_19 : decode cX10_below 19 = .ok (.lload 4, 2) := by decide +kernel
theorem dX10_below_21 : decode cX10_below 21 = .ok (.ldiv, 1) := by decide +kernel
theorem dX10_below_22 : decode cX10_below 22 = .ok (.lreturn, 1) := by decide +kernel
theorem dX10_tellPoint_0 : decode cX10_tellPoint 0 = .ok (.iload 6, 2) := by decide +kernel
theorem dX10_tellPoint_2 : decode cX10_tellPoint 2 = .ok (.tableswitch 58 0 3 #[30, 37, 44, 51], 30) := by decide +kernel
theorem dX10_tellPoint_32 : decode cX10_tellPoint 32 = .ok (.lload_n 0, 1) := by decide +kernel
theorem dX10_tellPoint_33 : decode cX10_tellPoint 33 = .ok (.lload 4, 2) := by decide +kernel
theorem dX10_tellPoint_35 : decode cX10_tellPoint 35 = .ok (.invokestatic 266, 3) := by decide +kernel
theorem dX10_tellPoint_38 : decode cX10_tellPoint 38 = .ok (.lreturn, 1) := by decide +kernel
theorem dX10_tellPoint_39 : decode cX10_tellPoint 39 = .ok (.lload_n 0, 1) := by decide +kernel
theorem dX10_tellPoint_40 : decode cX10_tellPoint 40 = .ok (.lload 4, 2) := by decide +kernel
theorem dX10_tellPoint_42 : decode cX10_tellPoint 42 = .ok (.invokestatic 269, 3) := by decide +kernel
theorem dX10_tellPoint_45 : decode cX10_tellPoint 45 = .ok (.lreturn, 1) := by decide +kernel
theorem dX10_tellPoint_46 : decode cX10_tellPoint 46 = .ok (.lload_n 2, 1) := by decide +kernel
theorem dX10_tellPoint_47 : decode cX10_tellPoint 47 = .ok (.lload 4, 2) := by decide +kernel
theorem dX10_tellPoint_49 : decode cX10_tellPoint 49 = .ok (.invokestatic 266, 3) := by decide +kernel
theorem dX10_tellPoint_52 : decode cX10_tellPoint 52 = .ok (.lreturn, 1) := by decide +kernel
theorem dX10_tellPoint_53 : decode cX10_tellPoint 53 = .ok (.lload_n 2, 1) := by decide +kernel
theorem dX10_tellPoint_54 : decode cX10_tellPoint 54 = .ok (.lload 4, 2) := by decide +kernel
theorem dX10_tellPoint_56 : decode cX10_tellPoint 56 = .ok (.invokestatic 269, 3) := by decide +kernel
theorem dX10_tellPoint_59 : decode cX10_tellPoint 59 = .ok (.lreturn, 1) := by decide +kernel
theorem dX10_tellPoint_60 : decode cX10_tellPoint 60 = .ok (.ldc2_w 163, 3) := by decide +kernel
theorem dX10_tellPoint_63 : decode cX10_tellPoint 63 = .ok (.lreturn, 1) := by decide +kernel
theorem dX10_tellSquare_0 : decode cX10_tellSquare 0 = .ok (.iload 4, 2) := by decide +kernel
theorem dX10_tellSquare_2 : decode cX10_tellSquare 2 = .ok (.iconst 4, 1) := by decide +kernel
theorem dX10_tellSquare_3 : decode cX10_tellSquare 3 = .ok (.if_icmp .ne 11, 3) := by decide +kernel
theorem dX10_tellSquare_6 : decode cX10_tellSquare 6 = .ok (.lload_n 0, 1) := by decide +kernel
theorem dX10_tellSquare_7 : decode cX10_tellSquare 7 = .ok (.lload_n 2, 1) := by decide +kernel
theorem dX10_tellSquare_8 : decode cX10_tellSquare 8 = .ok (.invokestatic 266, 3) := by decide +kernel
theorem dX10_tellSquare_11 : decode cX10_tellSquare 11 = .ok (.goto 8, 3) := by decide +kernel
theorem dX10_tellSquare_14 : decode cX10_tellSquare 14 = .ok (.lload_n 0, 1) := by decide +kernel
theorem dX10_tellSquare_15 : decode cX10_tellSquare 15 = .ok (.lload_n 2, 1) := by decide +kernel
theorem dX10_tellSquare_16 : decode cX10_tellSquare 16 = .ok (.invokestatic 269, 3) := by decide +kernel
theorem dX10_tellSquare_19 : decode cX10_tellSquare 19 = .ok (.lreturn, 1) := by decide +kernel
theorem dX10_compareFractions_0 : decode cX10_compareFractions 0 = .ok (.iconst 1, 1) := by decide +kernel
theorem dX10_compareFractions_1 : decode cX10_compareFractions 1 = .ok (.istore 8, 2) := by decide +kernel
theorem dX10_compareFractions_3 : decode cX10_compareFractions 3 = .ok (.iconst 0, 1) := by decide +kernel
theorem dX10_compareFractions_4 : decode cX10_compareFractions 4 = .ok (.istore 9, 2) := by decide +kernel
theorem dX10_compareFractions_6 : decode cX10_compareFractions 6 = .ok (.iload 9, 2) := by decide +kernel
theorem dX10_compareFractions_8 : decode cX10_compareFractions 8 = .ok (.sipush 200, 3) := by decide +kernel
theorem dX10_compareFractions_11 : decode cX10_compareFractions 11 = .ok (.if_icmp .ge 105, 3) := by decide +kernel
theorem dX10_compareFractions_14 : decode cX10_compareFractions 14 = .ok (.lload_n 2, 1) := by decide +kernel
theorem dX10_compareFractions_15 : decode cX10_compareFractions 15 = .ok (.lconst 0, 1) := by decide +kernel
theorem dX10_compareFractions_16 : decode cX10_compareFractions 16 = .ok (.lcmp, 1) := by decide +kernel
theorem dX10_compareFractions_17 : decode cX10_compareFractions 17 = .ok (.ifCond .eq 99, 3) := by decide +kernel
theorem dX10_compareFractions_20 : decode cX10_compareFractions 20 = .ok (.lload 6, 2) := by decide +kernel
theorem dX10_compareFractions_22 : decode cX10_compareFractions 22 = .ok (.lconst 0, 1) := by decide +kernel
theorem dX10_compareFractions_23 : decode cX10_compareFractions 23 = .ok (.lcmp, 1) := by decide +kernel
theorem dX10_compareFractions_24 : decode cX10_compareFractions 24 = .ok (.ifCond .eq 92, 3) := by decide +kernel
theorem dX10_compareFractions_27 : decode cX10_compareFractions 27 = .ok (.lload_n 0, 1) := by decide +kernel
theorem dX10_compareFractions_28 : decode cX10_compareFractions 28 = .ok (.lload_n 2, 1) := by decide +kernel
theorem dX10_compareFractions_29 : decode cX10_compareFractions 29 = .ok (.ldiv, 1) := by decide +kernel
theorem dX10_compareFractions_30 : decode cX10_compareFractions 30 = .ok (.lstore 10, 2) := by decide +kernel
theorem dX10_compareFractions_32 : decode cX10_compareFractions 32 = .ok (.lload 10, 2) := by decide +kernel
theorem dX10_compareFractions_34 : decode cX10_compareFractions 34 = .ok (.lload 4, 2) := by decide +kernel
theorem dX10_compareFractions_36 : decode cX10_compareFractions 36 = .ok (.lload 6, 2) := by decide +kernel
theorem dX10_compareFractions_38 : decode cX10_compareFractions 38 = .ok (.ldiv, 1) := by decide +kernel
theorem dX10_compareFractions_39 : decode cX10_compareFractions 39 = .ok (.invokestatic 272, 3) := by decide +kernel
theorem dX10_compareFractions_42 : decode cX10_compareFractions 42 = .ok (.istore 12, 2) := by decide +kernel
theorem dX10_compareFractions_44 : decode cX10_compareFractions 44 = .ok (.iload 12, 2) := by decide +kernel
theorem dX10_compareFractions_46 : decode cX10_compareFractions 46 = .ok (.ifCond .eq 9, 3) := by decide +kernel
theorem dX10_compareFractions_49 : decode cX10_compareFractions 49 = .ok (.iload 8, 2) := by decide +kernel
theorem dX10_compareFractions_51 : decode cX10_compareFractions 51 = .ok (.iload 12, 2) := by decide +kernel
theorem dX10_compareFractions_53 : decode cX10_compareFractions 53 = .ok (.imul, 1) := by decide +kernel
theorem dX10_compareFractions_54 : decode cX10_compareFractions 54 = .ok (.ireturn, 1) := by decide +kernel
theorem dX10_compareFractions_55 : decode cX10_compareFractions 55 = .ok (.lload_n 0, 1) := by decide +kernel
theorem dX10_compareFractions_56 : decode cX10_compareFractions 56 = .ok (.lload_n 2, 1) := by decide +kernel
theorem dX10_compareFractions_57 : decode cX10_compareFractions 57 = .ok (.lrem, 1) := by decide +kernel
theorem dX10_compareFractions_58 : decode cX10_compareFractions 58 = .ok (.lstore 13, 2) := by decide +kernel
theorem dX10_compareFractions_60 : decode cX10_compareFractions 60 = .ok (.lload 4, 2) := by decide +kernel
theorem dX10_compareFractions_62 : decode cX10_compareFractions 62 = .ok (.lload 6, 2) := by decide +kernel
theorem dX10_compareFractions_64 : decode cX10_compareFractions 64 = .ok (.lrem, 1) := by decide +kernel
theorem dX10_compareFractions_65 : decode cX10_compareFractions 65 = .ok (.lstore 15, 2) := by decide +kernel
theorem dX10_compareFractions_67 : decode cX10_compareFractions 67 = .ok (.lload 13, 2) := by decide +kernel
theorem dX10_compareFractions_69 : decode cX10_compareFractions 69 = .ok (.lconst 0, 1) := by decide +kernel
theorem dX10_compareFractions_70 : decode cX10_compareFractions 70 = .ok (.lcmp, 1) := by decide +kernel
theorem dX10_compareFractions_71 : decode cX10_compareFractions 71 = .ok (.ifCond .eq 10, 3) := by decide +kernel
theorem dX10_compareFractions_74 : decode cX10_compareFractions 74 = .ok (.lload 15, 2) := by decide +kernel
theorem dX10_compareFractions_76 : decode cX10_compareFractions 76 = .ok (.lconst 0, 1) := by decide +kernel
theorem dX10_compareFractions_77 : decode cX10_compareFractions 77 = .ok (.lcmp, 1) := by decide +kernel
theorem dX10_compareFractions_78 : decode cX10_compareFractions 78 = .ok (.ifCond .ne 14, 3) := by decide +kernel
theorem dX10_compareFractions_81 : decode cX10_compareFractions 81 = .ok (.iload 8, 2) := by decide +kernel
theorem dX10_compareFractions_83 : decode cX10_compareFractions 83 = .ok (.lload 13, 2) := by decide +kernel
theorem dX10_compareFractions_85 : decode cX10_compareFractions 85 = .ok (.lload 15, 2) := by decide +kernel
theorem dX10_compareFractions_87 : decode cX10_compareFractions 87 = .ok (.invokestatic 272, 3) := by decide +kernel
theorem dX10_compareFractions_90 : decode cX10_compareFractions 90 = .ok (.imul, 1) := by decide +kernel
theorem dX10_compareFractions_91 : decode cX10_compareFractions 91 = .ok (.ireturn, 1) := by decide +kernel
theorem dX10_compareFractions_92 : decode cX10_compareFractions 92 = .ok (.lload_n 2, 1) := by decide +kernel
theorem dX10_compareFractions_93 : decode cX10_compareFractions 93 = .ok (.lstore_n 0, 1) := by decide +kernel
theorem dX10_compareFractions_94 : decode cX10_compareFractions 94 = .ok (.lload 13, 2) := by decide +kernel
theorem dX10_compareFractions_96 : decode cX10_compareFractions 96 = .ok (.lstore_n 2, 1) := by decide +kernel
theorem dX10_compareFractions_97 : decode cX10_compareFractions 97 = .ok (.lload 6, 2) := by decide +kernel
theorem dX10_compareFractions_99 : decode cX10_compareFractions 99 = .ok (.lstore 4, 2) := by decide +kernel
theorem dX10_compareFractions_101 : decode cX10_compareFractions 101 = .ok (.lload 15, 2) := by decide +kernel
theorem dX10_compareFractions_103 : decode cX10_compareFractions 103 = .ok (.lstore 6, 2) := by decide +kernel
theorem dX10_compareFractions_105 : decode cX10_compareFractions 105 = .ok (.iload 8, 2) := by decide +kernel
theorem dX10_compareFractions_107 : decode cX10_compareFractions 107 = .ok (.ineg, 1) := by decide +kernel
theorem dX10_compareFractions_108 : decode cX10_compareFractions 108 = .ok (.istore 8, 2) := by decide +kernel
theorem dX10_compareFractions_110 : decode cX10_compareFractions 110 = .ok (.iinc 9 1, 3) := by decide +kernel
theorem dX10_compareFractions_113 : decode cX10_compareFractions 113 = .ok (.goto (-107), 3) := by decide +kernel
theorem dX10_compareFractions_116 : decode cX10_compareFractions 116 = .ok (.iconst 0, 1) := by decide +kernel
theorem dX10_compareFractions_117 : decode cX10_compareFractions 117 = .ok (.ireturn, 1) := by decide +kernel
theorem dX11_init_0 : decode cX11_init 0 = .ok (.aload_n 0, 1) := by decide +kernel
theorem dX11_init_1 : decode cX11_init 1 = .ok (.invokespecial 1, 3) := by decide +kernel
theorem dX11_init_4 : decode cX11_init 4 = .ok (.aload_n 0, 1) := by decide +kernel
theorem dX11_init_5 : decode cX11_init 5 = .ok (.bipush 100, 2) := by decide +kernel
theorem dX11_init_7 : decode cX11_init 7 = .ok (.putfield 7, 3) := by decide +kernel
theorem dX11_init_10 : decode cX11_init 10 = .ok (.aload_n 0, 1) := by decide +kernel
theorem dX11_init_11 : decode cX11_init 11 = .ok (.bipush 100, 2) := by decide +kernel
theorem dX11_init_13 : decode cX11_init 13 = .ok (.putfield 13, 3) := by decide +kernel
theorem dX11_init_16 : decode cX11_init 16 = .ok (.aload_n 0, 1) := by decide +kernel
theorem dX11_init_17 : decode cX11_init 17 = .ok (.bipush 24, 2) := by decide +kernel
theorem dX11_init_19 : decode cX11_init 19 = .ok (.newarray .boolean, 2) := by decide +kernel
theorem dX11_init_21 : decode cX11_init 21 = .ok (.putfield 16, 3) := by decide +kernel
theorem dX11_init_24 : decode cX11_init 24 = .ok (.aload_n 0, 1) := by decide +kernel
theorem dX11_init_25 : decode cX11_init 25 = .ok (.bipush 24, 2) := by decide +kernel
theorem dX11_init_27 : decode cX11_init 27 = .ok (.newarray .int, 2) := by decide +kernel
theorem dX11_init_29 : decode cX11_init 29 = .ok (.putfield 20, 3) := by decide +kernel
theorem dX11_init_32 : decode cX11_init 32 = .ok (.aload_n 0, 1) := by decide +kernel
theorem dX11_init_33 : decode cX11_init 33 = .ok (.bipush 24, 2) := by decide +kernel
theorem dX11_init_35 : decode cX11_init 35 = .ok (.newarray .int, 2) := by decide +kernel
theorem dX11_init_37 : decode cX11_init 37 = .ok (.putfield 24, 3) := by decide +kernel
theorem dX11_init_40 : decode cX11_init 40 = .ok (.aload_n 0, 1) := by decide +kernel
theorem dX11_init_41 : decode cX11_init 41 = .ok (.bipush 24, 2) := by decide +kernel
theorem dX11_init_43 : decode cX11_init 43 = .ok (.newarray .int, 2) := by decide +kernel
theorem dX11_init_45 : decode cX11_init 45 = .ok (.putfield 27, 3) := by decide +kernel
theorem dX11_init_48 : decode cX11_init 48 = .ok (.aload_n 0, 1) := by decide +kernel
theorem dX11_init_49 : decode cX11_init 49 = .ok (.bipush 24, 2) := by decide +kernel
theorem dX11_init_51 : decode cX11_init 51 = .ok (.newarray .int, 2) := by decide +kernel
theorem dX11_init_53 : decode cX11_init 53 = .ok (.putfield 30, 3) := by decide +kernel
theorem dX11_init_56 : decode cX11_init 56 = .ok (.aload_n 0, 1) := by decide +kernel
theorem dX11_init_57 : decode cX11_init 57 = .ok (.sipush 192, 3) := by decide +kernel
theorem dX11_init_60 : decode cX11_init 60 = .ok (.newarray .boolean, 2) := by decide +kernel
theorem dX11_init_62 : decode cX11_init 62 = .ok (.putfield 33, 3) := by decide +kernel
theorem dX11_init_65 : decode cX11_init 65 = .ok (.aload_n 0, 1) := by decide +kernel
theorem dX11_init_66 : decode cX11_init 66 = .ok (.sipush 192, 3) := by decide +kernel
theorem dX11_init_69 : decode cX11_init 69 = .ok (.newarray .int, 2) := by decide +kernel
theorem dX11_init_71 : decode cX11_init 71 = .ok (.putfield 36, 3) := by decide +kernel
theorem dX11_init_74 : decode cX11_init 74 = .ok (.aload_n 0, 1) := by decide +kernel
theorem dX11_init_75 : decode cX11_init 75 = .ok (.sipush 192, 3) := by decide +kernel
theorem dX11_init_78 : decode cX11_init 78 = .ok (.newarray .int, 2) := by decide +kernel
theorem dX11_init_80 : decode cX11_init 80 = .ok (.putfield 39, 3) := by decide +kernel
theorem dX11_init_83 : decode cX11_init 83 = .ok (.aload_n 0, 1) := by decide +kernel
theorem dX11_init_84 : decode cX11_init 84 = .ok (.sipush 192, 3) := by decide +kernel
theorem dX11_init_87 : decode cX11_init 87 = .ok (.newarray .int, 2) := by decide +kernel
theorem dX11_init_89 : decode cX11_init 89 = .ok (.putfield 42, 3) := by decide +kernel
theorem dX11_init_92 : decode cX11_init 92 = .ok (.aload_n 0, 1) := by decide +kernel
theorem dX11_init_93 : decode cX11_init 93 = .ok (.sipush 192, 3) := by decide +kernel
theorem dX11_init_96 : decode cX11_init 96 = .ok (.newarray .int, 2) := by decide +kernel
theorem dX11_init_98 : decode cX11_init 98 = .ok (.putfield 45, 3) := by decide +kernel
theorem dX11_init_101 : decode cX11_init 101 = .ok (.aload_n 0, 1) := by decide +kernel
theorem dX11_init_102 : decode cX11_init 102 = .ok (.bipush 8, 2) := by decide +kernel
theorem dX11_init_104 : decode cX11_init 104 = .ok (.newarray .int, 2) := by decide +kernel
theorem dX11_init_106 : decode cX11_init 106 = .ok (.putfield 48, 3) := by decide +kernel
theorem dX11_init_109 : decode cX11_init 109 = .ok (.aload_n 0, 1) := by decide +kernel
theorem dX11_init_110 : decode cX11_init 110 = .ok (.bipush 8, 2) := by decide +kernel
theorem dX11_init_112 : decode cX11_init 112 = .ok (.newarray .int, 2) := by decide +kernel
theorem dX11_init_114 : decode cX11_init 114 = .ok (.putfield 51, 3) := by decide +kernel
theorem dX11_init_117 : decode cX11_init 117 = .ok (.aload_n 0, 1) := by decide +kernel
theorem dX11_init_118 : decode cX11_init 118 = .ok (.bipush 28, 2) := by decide +kernel
theorem dX11_init_120 : decode cX11_init 120 = .ok (.newarray .long, 2) := by decide +kernel
theorem dX11_init_122 : decode cX11_init 122 = .ok (.putfield 54, 3) := by decide +kernel
theorem dX11_init_125 : decode cX11_init 125 = .ok (.aload_n 0, 1) := by decide +kernel
theorem dX11_init_126 : decode cX11_init 126 = .ok (.bipush 28, 2) := by decide +kernel
theorem dX11_init_128 : decode cX11_init 128 = .ok (.newarray .long, 2) := by decide +kernel
theorem dX11_init_130 : decode cX11_init 130 = .ok (.putfield 58, 3) := by decide +kernel
theorem dX11_init_133 : decode cX11_init 133 = .ok (.aload_n 0, 1) := by decide +kernel
theorem dX11_init_134 : decode cX11_init 134 = .ok (.bipush 28, 2) := by decide +kernel
theorem dX11_init_136 : decode cX11_init 136 = .ok (.newarray .long, 2) := by decide +kernel
theorem dX11_init_138 : decode cX11_init 138 = .ok (.putfield 61, 3) := by decide +kernel
theorem dX11_init_141 : decode cX11_init 141 = .ok (.aload_n 0, 1) := by decide +kernel
theorem dX11_init_142 : decode cX11_init 142 = .ok (.sipush 400, 3) := by decide +kernel
theorem dX11_init_145 : decode cX11_init 145 = .ok (.newarray .long, 2) := by decide +kernel
theorem dX11_init_147 : decode cX11_init 147 = .ok (.putfield 64, 3) := by decide +kernel
theorem dX11_init_150 : decode cX11_init 150 = .ok (.aload_n 0, 1) := by decide +kernel
theorem dX11_init_151 : decode cX11_init 151 = .ok (.sipush 400, 3) := by decide +kernel
theorem dX11_init_154 : decode cX11_init 154 = .ok (.newarray .long, 2) := by decide +kernel
theorem dX11_init_156 : decode cX11_init 156 = .ok (.putfield 67, 3) := by decide +kernel
theorem dX11_init_159 : decode cX11_init 159 = .ok (.aload_n 0, 1) := by decide +kernel
theorem dX11_init_160 : decode cX11_init 160 = .ok (.sipush 400, 3) := by decide +kernel
theorem dX11_init_163 : decode cX11_init 163 = .ok (.newarray .long, 2) := by decide +kernel
theorem dX11_init_165 : decode cX11_init 165 = .ok (.putfield 70, 3) := by decide +kernel
theorem dX11_init_168 : decode cX11_init 168 = .ok (.aload_n 0, 1) := by decide +kernel
theorem dX11_init_169 : decode cX11_init 169 = .ok (.sipush 400, 3) := by decide +kernel
theorem dX11_init_172 : decode cX11_init 172 = .ok (.newarray .int, 2) := by decide +kernel
theorem dX11_init_174 : decode cX11_init 174 = .ok (.putfield 73, 3) := by decide +kernel
theorem dX11_init_177 : decode cX11_init 177 = .ok (.aload_n 0, 1) := by decide +kernel
theorem dX11_init_178 : decode cX11_init 178 = .ok (.sipush 400, 3) := by decide +kernel
theorem dX11_init_181 : decode cX11_init 181 = .ok (.newarray .int, 2) := by decide +kernel
theorem dX11_init_183 : decode cX11_init 183 = .ok (.putfield 76, 3) := by decide +kernel
theorem dX11_init_186 : decode cX11_init 186 = .ok (.aload_n 0, 1) := by decide +kernel
theorem dX11_init_187 : decode cX11_init 187 = .ok (.bipush 64, 2) := by decide +kernel
theorem dX11_init_189 : decode cX11_init 189 = .ok (.newarray .int, 2) := by decide +kernel
theorem dX11_init_191 : decode cX11_init 191 = .ok (.putfield 79, 3) := by decide +kernel
theorem dX11_init_194 : decode cX11_init 194 = .ok (.aload_n 0, 1) := by decide +kernel
theorem dX11_init_195 : decode cX11_init 195 = .ok (.bipush 64, 2) := by decide +kernel
theorem dX11_init_197 : decode cX11_init 197 = .ok (.newarray .int, 2) := by decide +kernel
theorem dX11_init_199 : decode cX11_init 199 = .ok (.putfield 82, 3) := by decide +kernel
theorem dX11_init_202 : decode cX11_init 202 = .ok (.aload_n 0, 1) := by decide +kernel
theorem dX11_init_203 : decode cX11_init 203 = .ok (.bipush 64, 2) := by decide +kernel
theorem dX11_init_205 : decode cX11_init 205 = .ok (.newarray .int, 2) := by decide +kernel
theorem dX11_init_207 : decode cX11_init 207 = .ok (.putfield 85, 3) := by decide +kernel
theorem dX11_init_210 : decode cX11_init 210 = .ok (.aload_n 0, 1) := by decide +kernel
theorem dX11_init_211 : decode cX11_init 211 = .ok (.bipush 64, 2) := by decide +kernel
theorem dX11_init_213 : decode cX11_init 213 = .ok (.newarray .int, 2) := by decide +kernel
theorem dX11_init_215 : decode cX11_init 215 = .ok (.putfield 88, 3) := by decide +kernel
theorem dX11_init_218 : decode cX11_init 218 = .ok (.aload_n 0, 1) := by decide +kernel
theorem dX11_init_219 : decode cX11_init 219 = .ok (.bipush 24, 2) := by decide +kernel
theorem dX11_init_221 : decode cX11_init 221 = .ok (.newarray .int, 2) := by decide +kernel
theorem dX11_init_223 : decode cX11_init 223 = .ok (.putfield 91, 3) := by decide +kernel
theorem dX11_init_226 : decode cX11_init 226 = .ok (.aload_n 0, 1) := by decide +kernel
theorem dX11_init_227 : decode cX11_init 227 = .ok (.bipush 24, 2) := by decide +kernel
theorem dX11_init_229 : decode cX11_init 229 = .ok (.newarray .int, 2) := by decide +kernel
theorem dX11_init_231 : decode cX11_init 231 = .ok (.putfield 94, 3) := by decide +kernel
theorem dX11_init_234 : decode cX11_init 234 = .ok (.aload_n 0, 1) := by decide +kernel
theorem dX11_init_235 : decode cX11_init 235 = .ok (.bipush 26, 2) := by decide +kernel
theorem dX11_init_237 : decode cX11_init 237 = .ok (.newarray .int, 2) := by decide +kernel
theorem dX11_init_239 : decode cX11_init 239 = .ok (.putfield 97, 3) := by decide +kernel
theorem dX11_init_242 : decode cX11_init 242 = .ok (.aload_n 0, 1) := by decide +kernel
theorem dX11_init_243 : decode cX11_init 243 = .ok (.bipush 24, 2) := by decide +kernel
theorem dX11_init_245 : decode cX11_init 245 = .ok (.newarray .int, 2) := by decide +kernel
theorem dX11_init_247 : decode cX11_init 247 = .ok (.putfield 100, 3) := by decide +kernel
theorem dX11_init_250 : decode cX11_init 250 = .ok (.aload_n 0, 1) := by decide +kernel
theorem dX11_init_251 : decode cX11_init 251 = .ok (.bipush 24, 2) := by decide +kernel
theorem dX11_init_253 : decode cX11_init 253 = .ok (.newarray .long, 2) := by decide +kernel
theorem dX11_init_255 : decode cX11_init 255 = .ok (.putfield 103, 3) := by decide +kernel
theorem dX11_init_258 : decode cX11_init 258 = .ok (.aload_n 0, 1) := by decide +kernel
theorem dX11_init_259 : decode cX11_init 259 = .ok (.bipush 24, 2) := by decide +kernel
theorem dX11_init_261 : decode cX11_init 261 = .ok (.newarray .boolean, 2) := by decide +kernel
theorem dX11_init_263 : decode cX11_init 263 = .ok (.putfield 106, 3) := by decide +kernel
theorem dX11_init_266 : decode cX11_init 266 = .ok (.aload_n 0, 1) := by decide +kernel
theorem dX11_init_267 : decode cX11_init 267 = .ok (.bipush 8, 2) := by decide +kernel
theorem dX11_init_269 : decode cX11_init 269 = .ok (.newarray .int, 2) := by decide +kernel
theorem dX11_init_271 : decode cX11_init 271 = .ok (.dup, 1) := by decide +kernel
theorem dX11_init_272 : decode cX11_init 272 = .ok (.iconst 0, 1) := by decide +kernel
theorem dX11_init_273 : decode cX11_init 273 = .ok (.iconst (-1), 1) := by decide +kernel
theorem dX11_init_274 : decode cX11_init 274 = .ok (.iastore, 1) := by decide +kernel
theorem dX11_init_275 : decode cX11_init 275 = .ok (.dup, 1) := by decide +kernel
theorem dX11_init_276 : decode cX11_init 276 = .ok (.iconst 1, 1) := by decide +kernel
theorem dX11_init_277 : decode cX11_init 277 = .ok (.iconst (-1), 1) := by decide +kernel
theorem dX11_init_278 : decode cX11_init 278 = .ok (.iastore, 1) := by decide +kernel
theorem dX11_init_279 : decode cX11_init 279 = .ok (.dup, 1) := by decide +kernel
theorem dX11_init_280 : decode cX11_init 280 = .ok (.iconst 2, 1) := by decide +kernel
theorem dX11_init_281 : decode cX11_init 281 = .ok (.iconst (-1), 1) := by decide +kernel
theorem dX11_init_282 : decode cX11_init 282 = .ok (.iastore, 1) := by decide +kernel
theorem dX11_init_283 : decode cX11_init 283 = .ok (.dup, 1) := by decide +kernel
theorem dX11_init_284 : decode cX11_init 284 = .ok (.iconst 3, 1) := by decide +kernel
theorem dX11_init_285 : decode cX11_init 285 = .ok (.iconst (-1), 1) := by decide +kernel
theorem dX11_init_286 : decode cX11_init 286 = .ok (.iastore, 1) := by decide +kernel
theorem dX11_init_287 : decode cX11_init 287 = .ok (.dup, 1) := by decide +kernel
theorem dX11_init_288 : decode cX11_init 288 = .ok (.iconst 4, 1) := by decide +kernel
theorem dX11_init_289 : decode cX11_init 289 = .ok (.iconst (-1), 1) := by decide +kernel
theorem dX11_init_290 : decode cX11_init 290 = .ok (.iastore, 1) := by decide +kernel
theorem dX11_init_291 : decode cX11_init 291 = .ok (.dup, 1) := by decide +kernel
theorem dX11_init_292 : decode cX11_init 292 = .ok (.iconst 5, 1) := by decide +kernel
theorem dX11_init_293 : decode cX11_init 293 = .ok (.iconst (-1), 1) := by decide +kernel
theorem dX11_init_294 : decode cX11_init 294 = .ok (.iastore, 1) := by decide +kernel
theorem dX11_init_295 : decode cX11_init 295 = .ok (.dup, 1) := by decide +kernel
theorem dX11_init_296 : decode cX11_init 296 = .ok (.bipush 6, 2) := by decide +kernel
theorem dX11_init_298 : decode cX11_init 298 = .ok (.iconst (-1), 1) := by decide +kernel
theorem dX11_init_299 : decode cX11_init 299 = .ok (.iastore, 1) := by decide +kernel
theorem dX11_init_300 : decode cX11_init 300 = .ok (.dup, 1) := by decide +kernel
theorem dX11_init_301 : decode cX11_init 301 = .ok (.bipush 7, 2) := by decide +kernel
theorem dX11_init_303 : decode cX11_init 303 = .ok (.iconst (-1), 1) := by decide +kernel
theorem dX11_init_304 : decode cX11_init 304 = .ok (.iastore, 1) := by decide +kernel
theorem dX11_init_305 : decode cX11_init 305 = .ok (.putfield 109, 3) := by decide +kernel
theorem dX11_init_308 : decode cX11_init 308 = .ok (.aload_n 0, 1) := by decide +kernel
theorem dX11_init_309 : decode cX11_init 309 = .ok (.sipush 256, 3) := by decide +kernel
theorem dX11_init_312 : decode cX11_init 312 = .ok (.newarray .int, 2) := by decide +kernel
theorem dX11_init_314 : decode cX11_init 314 = .ok (.putfield 112, 3) := by decide +kernel
theorem dX11_init_317 : decode cX11_init 317 = .ok (.aload_n 0, 1) := by decide +kernel
theorem dX11_init_318 : decode cX11_init 318 = .ok (.bipush 8, 2) := by decide +kernel
theorem dX11_init_320 : decode cX11_init 320 = .ok (.newarray .int, 2) := by decide +kernel
theorem dX11_init_322 : decode cX11_init 322 = .ok (.putfield 115, 3) := by decide +kernel
theorem dX11_init_325 : decode cX11_init 325 = .ok (.return_, 1) := by decide +kernel
theorem dX11_keeps_0 : decode cX11_keeps 0 = .ok (.aload_n 0, 1) := by decide +kernel
theorem dX11_keeps_1 : decode cX11_keeps 1 = .ok (.getfield 118, 3) := by decide +kernel
theorem dX11_keeps_4 : decode cX11_keeps 4 = .ok (.bipush 8, 2) := by decide +kernel
theorem dX11_keeps_6 : decode cX11_keeps 6 = .ok (.if_icmp .ne 141, 3) := by decide +kernel
theorem dX11_keeps_9 : decode cX11_keeps 9 = .ok (.iconst 0, 1) := by decide +kernel
theorem dX11_keeps_10 : decode cX11_keeps 10 = .ok (.istore_n 1, 1) := by decide +kernel
theorem dX11_keeps_11 : decode cX11_keeps 11 = .ok (.iload_n 1, 1) := by decide +kernel
theorem dX11_keeps_12 : decode cX11_keeps 12 = .ok (.sipush 168, 3) := by decide +kernel
theorem dX11_keeps_15 : decode cX11_keeps 15 = .ok (.if_icmp .ge 84, 3) := by decide +kernel
theorem dX11_keeps_18 : decode cX11_keeps 18 = .ok (.aload_n 0, 1) := by decide +kernel
theorem dX11_keeps_19 : decode cX11_keeps 19 = .ok (.getfield 33, 3) := by decide +kernel
theorem dX11_keeps_22 : decode cX11_keeps 22 = .ok (.iload_n 1, 1) := by decide +kernel
theorem dX11_keeps_23 : decode cX11_keeps 23 = .ok (.aload_n 0, 1) := by decide +kernel
theorem dX11_keeps_24 : decode cX11_keeps 24 = .ok (.getfield 33, 3) := by decide +kernel
theorem dX11_keeps_27 : decode cX11_keeps 27 = .ok (.iload_n 1, 1) := by decide +kernel
theorem dX11_keeps_28 : decode cX11_keeps 28 = .ok (.bipush 24, 2) := by decide +kernel
theorem dX11_keeps_30 : decode cX11_keeps 30 = .ok (.iadd, 1) := by decide +kernel
theorem dX11_keeps_31 : decode cX11_keeps 31 = .ok (.baload, 1) := by decide +kernel
theorem dX11_keeps_32 : decode cX11_keeps 32 = .ok (.bastore, 1) := by decide +kernel
theorem dX11_keeps_33 : decode cX11_keeps 33 = .ok (.aload_n 0, 1) := by decide +kernel
theorem dX11_keeps_34 : decode cX11_keeps 34 = .ok (.getfield 36, 3) := by decide +kernel
theorem dX11_keeps_37 : decode cX11_keeps 37 = .ok (.iload_n 1, 1) := by decide +kernel
theorem dX11_keeps_38 : decode cX11_keeps 38 = .ok (.aload_n 0, 1) := by decide +kernel
theorem dX11_keeps_39 : decode cX11_keeps 39 = .ok (.getfield 36, 3) := by decide +kernel
theorem dX11_keeps_42 : decode cX11_keeps 42 = .ok (.iload_n 1, 1) := by decide +kernel
theorem dX11_keeps_43 : decode cX11_keeps 43 = .ok (.bipush 24, 2) := by decide +kernel
theorem dX11_keeps_45 : decode cX11_keeps 45 = .ok (.iadd, 1) := by decide +kernel
theorem dX11_keeps_46 : decode cX11_keeps 46 = .ok (.iaload, 1) := by decide +kernel
theorem dX11_keeps_47 : decode cX11_keeps 47 = .ok (.iastore, 1) := by decide +kernel
theorem dX11_keeps_48 : decode cX11_keeps 48 = .ok (.aload_n 0, 1) := by decide +kernel
theorem dX11_keeps_49 : decode cX11_keeps 49 = .ok (.getfield 39, 3) := by decide +kernel
theorem dX11_keeps_52 : decode cX11_keeps 52 = .ok (.iload_n 1, 1) := by decide +kernel
theorem dX11_keeps_53 : decode cX11_keeps 53 = .ok (.aload_n 0, 1) := by decide +kernel
theorem dX11_keeps_54 : decode cX11_keeps 54 = .ok (.getfield 39, 3) := by decide +kernel
theorem dX11_keeps_57 : decode cX11_keeps 57 = .ok (.iload_n 1, 1) := by decide +kernel
theorem dX11_keeps_58 : decode cX11_keeps 58 = .ok (.bipush 24, 2) := by decide +kernel
theorem dX11_keeps_60 : decode cX11_keeps 60 = .ok (.iadd, 1) := by decide +kernel
theorem dX11_keeps_61 : decode cX11_keeps 61 = .ok (.iaload, 1) := by decide +kernel
theorem dX11_keeps_62 : decode cX11_keeps 62 = .ok (.iastore, 1) := by decide +kernel
theorem dX11_keeps_63 : decode cX11_keeps 63 = .ok (.aload_n 0, 1) := by decide +kernel
theorem dX11_keeps_64 : decode cX11_keeps 64 = .ok (.getfield 42, 3) := by decide +kernel
theorem dX11_keeps_67 : decode cX11_keeps 67 = .ok (.iload_n 1, 1) := by decide +kernel
theorem dX11_keeps_68 : decode cX11_keeps 68 = .ok (.aload_n 0, 1) := by decide +kernel
theorem dX11_keeps_69 : decode cX11_keeps 69 = .ok (.getfield 42, 3) := by decide +kernel
theorem dX11_keeps_72 : decode cX11_keeps 72 = .ok (.iload_n 1, 1) := by decide +kernel
theorem dX11_keeps_73 : decode cX11_keeps 73 = .ok (.bipush 24, 2) := by decide +kernel
theorem dX11_keeps_75 : decode cX11_keeps 75 = .ok (.iadd, 1) := by decide +kernel
theorem dX11_keeps_76 : decode cX11_keeps 76 = .ok (.iaload, 1) := by decide +kernel
theorem dX11_keeps_77 : decode cX11_keeps 77 = .ok (.iastore, 1) := by decide +kernel
theorem dX11_keeps_78 : decode cX11_keeps 78 = .ok (.aload_n 0, 1) := by decide +kernel
theorem dX11_keeps_79 : decode cX11_keeps 79 = .ok (.getfield 45, 3) := by decide +kernel
theorem dX11_keeps_82 : decode cX11_keeps 82 = .ok (.iload_n 1, 1) := by decide +kernel
theorem dX11_keeps_83 : decode cX11_keeps 83 = .ok (.aload_n 0, 1) := by decide +kernel
theorem dX11_keeps_84 : decode cX11_keeps 84 = .ok (.getfield 45, 3) := by decide +kernel
theorem dX11_keeps_87 : decode cX11_keeps 87 = .ok (.iload_n 1, 1) := by decide +kernel
theorem dX11_keeps_88 : decode cX11_keeps 88 = .ok (.bipush 24, 2) := by decide +kernel
theorem dX11_keeps_90 : decode cX11_keeps 90 = .ok (.iadd, 1) := by decide +kernel
theorem dX11_keeps_91 : decode cX11_keeps 91 = .ok (.iaload, 1) := by decide +kernel
theorem dX11_keeps_92 : decode cX11_keeps 92 = .ok (.iastore, 1) := by decide +kernel
theorem dX11_keeps_93 : decode cX11_keeps 93 = .ok (.iinc 1 1, 3) := by decide +kernel
theorem dX11_keeps_96 : decode cX11_keeps 96 = .ok (.goto (-85), 3) := by decide +kernel
theorem dX11_keeps_99 : decode cX11_keeps 99 = .ok (.iconst 0, 1) := by decide +kernel
theorem dX11_keeps_100 : decode cX11_keeps 100 = .ok (.istore_n 1, 1) := by decide +kernel
theorem dX11_keeps_101 : decode cX11_keeps 101 = .ok (.iload_n 1, 1) := by decide +kernel
theorem dX11_keeps_102 : decode cX11_keeps 102 = .ok (.bipush 7, 2) := by decide +kernel
theorem dX11_keeps_104 : decode cX11_keeps 104 = .ok (.if_icmp .ge 37, 3) := by decide +kernel
theorem dX11_keeps_107 : decode cX11_keeps 107 = .ok (.aload_n 0, 1) := by decide +kernel
theorem dX11_keeps_108 : decode cX11_keeps 108 = .ok (.getfield 48, 3) := by decide +kernel
theorem dX11_keeps_111 : decode cX11_keeps 111 = .ok (.iload_n 1, 1) := by decide +kernel
theorem dX11_keeps_112 : decode cX11_keeps 112 = .ok (.aload_n 0, 1) := by decide +kernel
theorem dX11_keeps_113 : decode cX11_keeps 113 = .ok (.getfield 48, 3) := by decide +kernel
theorem dX11_keeps_116 : decode cX11_keeps 116 = .ok (.iload_n 1, 1) := by decide +kernel
theorem dX11_keeps_117 : decode cX11_keeps 117 = .ok (.iconst 1, 1) := by decide +kernel
theorem dX11_keeps_118 : decode cX11_keeps 118 = .ok (.iadd, 1) := by decide +kernel
theorem dX11_keeps_119 : decode cX11_keeps 119 = .ok (.iaload, 1) := by decide +kernel
theorem dX11_keeps_120 : decode cX11_keeps 120 = .ok (.iastore, 1) := by decide +kernel
theorem dX11_keeps_121 : decode cX11_keeps 121 = .ok (.aload_n 0, 1) := by decide +kernel
theorem dX11_keeps_122 : decode cX11_keeps 122 = .ok (.getfield 51, 3) := by decide +kernel
theorem dX11_keeps_125 : decode cX11_keeps 125 = .ok (.iload_n 1, 1) := by decide +kernel
theorem dX11_keeps_126 : decode cX11_keeps 126 = .ok (.aload_n 0, 1) := by decide +kernel
theorem dX11_keeps_127 : decode cX11_keeps 127 = .ok (.getfield 51, 3) := by decide +kernel
theorem dX11_keeps_130 : decode cX11_keeps 130 = .ok (.iload_n 1, 1) := by decide +kernel
theorem dX11_keeps_131 : decode cX11_keeps 131 = .ok (.iconst 1, 1) := by decide +kernel
theorem dX11_keeps_132 : decode cX11_keeps 132 = .ok (.iadd, 1) := by decide +kernel
theorem dX11_keeps_133 : decode cX11_keeps 133 = .ok (.iaload, 1) := by decide +kernel
theorem dX11_keeps_134 : decode cX11_keeps 134 = .ok (.iastore, 1) := by decide +kernel
theorem dX11_keeps_135 : decode cX11_keeps 135 = .ok (.iinc 1 1, 3) := by decide +kernel
theorem dX11_keeps_138 : decode cX11_keeps 138 = .ok (.goto (-37), 3) := by decide +kernel
theorem dX11_keeps_141 : decode cX11_keeps 141 = .ok (.aload_n 0, 1) := by decide +kernel
theorem dX11_keeps_142 : decode cX11_keeps 142 = .ok (.bipush 7, 2) := by decide +kernel
theorem dX11_keeps_144 : decode cX11_keeps 144 = .ok (.putfield 118, 3) := by decide +kernel
theorem dX11_keeps_147 : decode cX11_keeps 147 = .ok (.iconst 0, 1) := by decide +kernel
theorem dX11_keeps_148 : decode cX11_keeps 148 = .ok (.istore_n 1, 1) := by decide +kernel
theorem dX11_keeps_149 : decode cX11_keeps 149 = .ok (.iload_n 1, 1) := by decide +kernel
theorem dX11_keeps_150 : decode cX11_keeps 150 = .ok (.bipush 24, 2) := by decide +kernel
theorem dX11_keeps_152 : decode cX11_keeps 152 = .ok (.if_icmp .ge 79, 3) := by decide +kernel
theorem dX11_keeps_155 : decode cX11_keeps 155 = .ok (.bipush 24, 2) := by decide +kernel
theorem dX11_keeps_157 : decode cX11_keeps 157 = .ok (.aload_n 0, 1) := by decide +kernel
theorem dX11_keeps_158 : decode cX11_keeps 158 = .ok (.getfield 118, 3) := by decide +kernel
theorem dX11_keeps_161 : decode cX11_keeps 161 = .ok (.imul, 1) := by decide +kernel
theorem dX11_keeps_162 : decode cX11_keeps 162 = .ok (.iload_n 1, 1) := by decide +kernel
theorem dX11_keeps_163 : decode cX11_keeps 163 = .ok (.iadd, 1) := by decide +kernel
theorem dX11_keeps_164 : decode cX11_keeps 164 = .ok (.istore_n 2, 1) := by decide +kernel
theorem dX11_keeps_165 : decode cX11_keeps 165 = .ok (.aload_n 0, 1) := by decide +kernel
theorem dX11_keeps_166 : decode cX11_keeps 166 = .ok (.getfield 33, 3) := by decide +kernel
theorem dX11_keeps_169 : decode cX11_keeps 169 = .ok (.iload_n 2, 1) := by decide +kernel
theorem dX11_keeps_170 : decode cX11_keeps 170 = .ok (.aload_n 0, 1) := by decide +kernel
theorem dX11_keeps_171 : decode cX11_keeps 171 = .ok (.getfield 16, 3) := by decide +kernel
theorem dX11_keeps_174 : decode cX11_keeps 174 = .ok (.iload_n 1, 1) := by decide +kernel
theorem dX11_keeps_175 : decode cX11_keeps 175 = .ok (.baload, 1) := by decide +kernel
theorem dX11_keeps_176 : decode cX11_keeps 176 = .ok (.bastore, 1) := by decide +kernel
theorem dX11_keeps_177 : decode cX11_keeps 177 = .ok (.aload_n 0, 1) := by decide +kernel
theorem dX11_keeps_178 : decode cX11_keeps 178 = .ok (.getfield 36, 3) := by decide +kernel
theorem dX11_keeps_181 : decode cX11_keeps 181 = .ok (.iload_n 2, 1) := by decide +kernel
theorem dX11_keeps_182 : decode cX11_keeps 182 = .ok (.aload_n 0, 1) := by decide +kernel
theorem dX11_keeps_183 : decode cX11_keeps 183 = .ok (.getfield 20, 3) := by decide +kernel
theorem dX11_keeps_186 : decode cX11_keeps 186 = .ok (.iload_n 1, 1) := by decide +kernel
theorem dX11_keeps_187 : decode cX11_keeps 187 = .ok (.iaload, 1) := by decide +kernel
theorem dX11_keeps_188 : decode cX11_keeps 188 = .ok (.iastore, 1) := by decide +kernel
theorem dX11_keeps_189 : decode cX11_keeps 189 = .ok (.aload_n 0, 1) := by decide +kernel
theorem dX11_keeps_190 : decode cX11_keeps 190 = .ok (.getfield 39, 3) := by decide +kernel
theorem dX11_keeps_193 : decode cX11_keeps 193 = .ok (.iload_n 2, 1) := by decide +kernel
theorem dX11_keeps_194 : decode cX11_keeps 194 = .ok (.aload_n 0, 1) := by decide +kernel
theorem dX11_keeps_195 : decode cX11_keeps 195 = .ok (.getfield 24, 3) := by decide +kernel
theorem dX11_keeps_198 : decode cX11_keeps 198 = .ok (.iload_n 1, 1) := by decide +kernel
theorem dX11_keeps_199 : decode cX11_keeps 199 = .ok (.iaload, 1) := by decide +kernel
theorem dX11_keeps_200 : decode cX11_keeps 200 = .ok (.iastore, 1) := by decide +kernel
theorem dX11_keeps_201 : decode cX11_keeps 201 = .ok (.aload_n 0, 1) := by decide +kernel
theorem dX11_keeps_202 : decode cX11_keeps 202 = .ok (.getfield 42, 3) := by decide +kernel
theorem dX11_keeps_205 : decode cX11_keeps 205 = .ok (.iload_n 2, 1) := by decide +kernel
theorem dX11_keeps_206 : decode cX11_keeps 206 = .ok (.aload_n 0, 1) := by decide +kernel
theorem dX11_keeps_207 : decode cX11_keeps 207 = .ok (.getfield 27, 3) := by decide +kernel
theorem dX11_keeps_210 : decode cX11_keeps 210 = .ok (.iload_n 1, 1) := by decide +kernel
theorem dX11_keeps_211 : decode cX11_keeps 211 = .ok (.iaload, 1) := by decide +kernel
theorem dX11_keeps_212 : decode cX11_keeps 212 = .ok (.iastore, 1) := by decide +kernel
theorem dX11_keeps_213 : decode cX11_keeps 213 = .ok (.aload_n 0, 1) := by decide +kernel
theorem dX11_keeps_214 : decode cX11_keeps 214 = .ok (.getfield 45, 3) := by decide +kernel
theorem dX11_keeps_217 : decode cX11_keeps 217 = .ok (.iload_n 2, 1) := by decide +kernel
theorem dX11_keeps_218 : decode cX11_keeps 218 = .ok (.aload_n 0, 1) := by decide +kernel
theorem dX11_keeps_219 : decode cX11_keeps 219 = .ok (.getfield 30, 3) := by decide +kernel
theorem dX11_keeps_222 : decode cX11_keeps 222 = .ok (.iload_n 1, 1) := by decide +kernel
theorem dX11_keeps_223 : decode cX11_keeps 223 = .ok (.iaload, 1) := by decide +kernel
theorem dX11_keeps_224 : decode cX11_keeps 224 = .ok (.iastore, 1) := by decide +kernel
theorem dX11_keeps_225 : decode cX11_keeps 225 = .ok (.iinc 1 1, 3) := by decide +kernel
theorem dX11_keeps_228 : decode cX11_keeps 228 = .ok (.goto (-79), 3) := by decide +kernel
theorem dX11_keeps_231 : decode cX11_keeps 231 = .ok (.aload_n 0, 1) := by decide +kernel
theorem dX11_keeps_232 : decode cX11_keeps 232 = .ok (.getfield 48, 3) := by decide +kernel
theorem dX11_keeps_235 : decode cX11_keeps 235 = .ok (.aload_n 0, 1) := by decide +kernel
theorem dX11_keeps_236 : decode cX11_keeps 236 = .ok (.getfield 118, 3) := by decide +kernel
theorem dX11_keeps_239 : decode cX11_keeps 239 = .ok (.aload_n 0, 1) := by decide +kernel
theorem dX11_keeps_240 : decode cX11_keeps 240 = .ok (.getfield 7, 3) := by decide +kernel
theorem dX11_keeps_243 : decode cX11_keeps 243 = .ok (.iastore, 1) := by decide +kernel
theorem dX11_keeps_244 : decode cX11_keeps 244 = .ok (.aload_n 0, 1) := by decide +kernel
theorem dX11_keeps_245 : decode cX11_keeps 245 = .ok (.getfield 51, 3) := by decide +kernel
theorem dX11_keeps_248 : decode cX11_keeps 248 = .ok (.aload_n 0, 1) := by decide +kernel
theorem dX11_keeps_249 : decode cX11_keeps 249 = .ok (.getfield 118, 3) := by decide +kernel
theorem dX11_keeps_252 : decode cX11_keeps 252 = .ok (.aload_n 0, 1) := by decide +kernel
theorem dX11_keeps_253 : decode cX11_keeps 253 = .ok (.getfield 13, 3) := by decide +kernel
theorem dX11_keeps_256 : decode cX11_keeps 256 = .ok (.iastore, 1) := by decide +kernel
theorem dX11_keeps_257 : decode cX11_keeps 257 = .ok (.aload_n 0, 1) := by decide +kernel
theorem dX11_keeps_258 : decode cX11_keeps 258 = .ok (.dup, 1) := by decide +kernel
theorem dX11_keeps_259 : decode cX11_keeps 259 = .ok (.getfield 118, 3) := by decide +kernel
theorem dX11_keeps_262 : decode cX11_keeps 262 = .ok (.iconst 1, 1) := by decide +kernel
theorem dX11_keeps_263 : decode cX11_keeps 263 = .ok (.iadd, 1) := by decide +kernel
theorem dX11_keeps_264 : decode cX11_keeps 264 = .ok (.putfield 118, 3) := by decide +kernel
theorem dX11_keeps_267 : decode cX11_keeps 267 = .ok (.return_, 1) := by decide +kernel
theorem dX11_brings_0 : decode cX11_brings 0 = .ok (.aload_n 0, 1) := by decide +kernel
theorem dX11_brings_1 : decode cX11_brings 1 = .ok (.dup, 1) := by decide +kernel
theorem dX11_brings_2 : decode cX11_brings 2 = .ok (.getfield 118, 3) := by decide +kernel
theorem dX11_brings_5 : decode cX11_brings 5 = .ok (.iconst 1, 1) := by decide +kernel
theorem dX11_brings_6 : decode cX11_brings 6 = .ok (.isub, 1) := by decide +kernel
theorem dX11_brings_7 : decode cX11_brings 7 = .ok (.putfield 118, 3) := by decide +kernel
theorem dX11_brings_10 : decode cX11_brings 10 = .ok (.iconst 0, 1) := by decide +kernel
theorem dX11_brings_11 : decode cX11_brings 11 = .ok (.istore_n 1, 1) := by decide +kernel
theorem dX11_brings_12 : decode cX11_brings 12 = .ok (.iload_n 1, 1) := by decide +kernel
theorem dX11_brings_13 : decode cX11_brings 13 = .ok (.bipush 24, 2) := by decide +kernel
theorem dX11_brings_15 : decode cX11_brings 15 = .ok (.if_icmp .ge 79, 3) := by decide +kernel
theorem dX11_brings_18 : decode cX11_brings 18 = .ok (.bipush 24, 2) := by decide +kernel
theorem dX11_brings_20 : decode cX11_brings 20 = .ok (.aload_n 0, 1) := by decide +kernel
theorem dX11_brings_21 : decode cX11_brings 21 = .ok (.getfield 118, 3) := by decide +kernel
theorem dX11_brings_24 : decode cX11_brings 24 = .ok (.imul, 1) := by decide +kernel
theorem dX11_brings_25 : decode cX11_brings 25 = .ok (.iload_n 1, 1) := by decide +kernel
theorem dX11_brings_26 : decode cX11_brings 26 = .ok (.iadd, 1) := by decide +kernel
theorem dX11_brings_27 : decode cX11_brings 27 = .ok (.istore_n 2, 1) := by decide +kernel
theorem dX11_brings_28 : decode cX11_brings 28 = .ok (.aload_n 0, 1) := by decide +kernel
theorem dX11_brings_29 : decode cX11_brings 29 = .ok (.getfield 16, 3) := by decide +kernel
theorem dX11_brings_32 : decode cX11_brings 32 = .ok (.iload_n 1, 1) := by decide +kernel
theorem dX11_brings_33 : decode cX11_brings 33 = .ok (.aload_n 0, 1) := by decide +kernel
theorem dX11_brings_34 : decode cX11_brings 34 = .ok (.getfield 33, 3) := by decide +kernel
theorem dX11_brings_37 : decode cX11_brings 37 = .ok (.iload_n 2, 1) := by decide +kernel
theorem dX11_brings_38 : decode cX11_brings 38 = .ok (.baload, 1) := by decide +kernel
theorem dX11_brings_39 : decode cX11_brings 39 = .ok (.bastore, 1) := by decide +kernel
theorem dX11_brings_40 : decode cX11_brings 40 = .ok (.aload_n 0, 1) := by decide +kernel
theorem dX11_brings_41 : decode cX11_brings 41 = .ok (.getfield 20, 3) := by decide +kernel
theorem dX11_brings_44 : decode cX11_brings 44 = .ok (.iload_n 1, 1) := by decide +kernel
theorem dX11_brings_45 : decode cX11_brings 45 = .ok (.aload_n 0, 1) := by decide +kernel
theorem dX11_brings_46 : decode cX11_brings 46 = .ok (.getfield 36, 3) := by decide +kernel
theorem dX11_brings_49 : decode cX11_brings 49 = .ok (.iload_n 2, 1) := by decide +kernel
theorem dX11_brings_50 : decode cX11_brings 50 = .ok (.iaload, 1) := by decide +kernel
theorem dX11_brings_51 : decode cX11_brings 51 = .ok (.iastore, 1) := by decide +kernel
theorem dX11_brings_52 : decode cX11_brings 52 = .ok (.aload_n 0, 1) := by decide +kernel
theorem dX11_brings_53 : decode cX11_brings 53 = .ok (.getfield 24, 3) := by decide +kernel
theorem dX11_brings_56 : decode cX11_brings 56 = .ok (.iload_n 1, 1) := by decide +kernel
theorem dX11_brings_57 : decode cX11_brings 57 = .ok (.aload_n 0, 1) := by decide +kernel
theorem dX11_brings_58 : decode cX11_brings 58 = .ok (.getfield 39, 3) := by decide +kernel
theorem dX11_brings_61 : decode cX11_brings 61 = .ok (.iload_n 2, 1) := by decide +kernel
theorem dX11_brings_62 : decode cX11_brings 62 = .ok (.iaload, 1) := by decide +kernel
theorem dX11_brings_63 : decode cX11_brings 63 = .ok (.iastore, 1) := by decide +kernel
theorem dX11_brings_64 : decode cX11_brings 64 = .ok (.aload_n 0, 1) := by decide +kernel
theorem dX11_brings_65 : decode cX11_brings 65 = .ok (.getfield 27, 3) := by decide +kernel
theorem dX11_brings_68 : decode cX11_brings 68 = .ok (.iload_n 1, 1) := by decide +kernel
theorem dX11_brings_69 : decode cX11_brings 69 = .ok (.aload_n 0, 1) := by decide +kernel
theorem dX11_brings_70 : decode cX11_brings 70 = .ok (.getfield 42, 3) := by decide +kernel
theorem dX11_brings_73 : decode cX11_brings 73 = .ok (.iload_n 2, 1) := by decide +kernel
theorem dX11_brings_74 : decode cX11_brings 74 = .ok (.iaload, 1) := by decide +kernel
theorem dX11_brings_75 : decode cX11_brings 75 = .ok (.iastore, 1) := by decide +kernel
theorem dX11_brings_76 : decode cX11_brings 76 = .ok (.aload_n 0, 1) := by decide +kernel
theorem dX11_brings_77 : decode cX11_brings 77 = .ok (.getfield 30, 3) := by decide +kernel
theorem dX11_brings_80 : decode cX11_brings 80 = .ok (.iload_n 1, 1) := by decide +kernel
