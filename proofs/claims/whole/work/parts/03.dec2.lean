theorem dX5_init_0 : decode cX5_init 0 = .ok (.aload_n 0, 1) := by decide +kernel
theorem dX5_init_1 : decode cX5_init 1 = .ok (.invokespecial 3, 3) := by decide +kernel
theorem dX5_init_4 : decode cX5_init 4 = .ok (.aload_n 0, 1) := by decide +kernel
theorem dX5_init_5 : decode cX5_init 5 = .ok (.new 9, 3) := by decide +kernel
theorem dX5_init_8 : decode cX5_init 8 = .ok (.dup, 1) := by decide +kernel
theorem dX5_init_9 : decode cX5_init 9 = .ok (.invokespecial 11, 3) := by decide +kernel
theorem dX5_init_12 : decode cX5_init 12 = .ok (.putfield 12, 3) := by decide +kernel
theorem dX5_init_15 : decode cX5_init 15 = .ok (.aload_n 0, 1) := by decide +kernel
theorem dX5_init_16 : decode cX5_init 16 = .ok (.bipush 8, 2) := by decide +kernel
theorem dX5_init_18 : decode cX5_init 18 = .ok (.newarray .int, 2) := by decide +kernel
theorem dX5_init_20 : decode cX5_init 20 = .ok (.putfield 18, 3) := by decide +kernel
theorem dX5_init_23 : decode cX5_init 23 = .ok (.aload_n 0, 1) := by decide +kernel
theorem dX5_init_24 : decode cX5_init 24 = .ok (.bipush 8, 2) := by decide +kernel
theorem dX5_init_26 : decode cX5_init 26 = .ok (.newarray .int, 2) := by decide +kernel
theorem dX5_init_28 : decode cX5_init 28 = .ok (.putfield 22, 3) := by decide +kernel
theorem dX5_init_31 : decode cX5_init 31 = .ok (.aload_n 0, 1) := by decide +kernel
theorem dX5_init_32 : decode cX5_init 32 = .ok (.bipush 8, 2) := by decide +kernel
theorem dX5_init_34 : decode cX5_init 34 = .ok (.newarray .int, 2) := by decide +kernel
theorem dX5_init_36 : decode cX5_init 36 = .ok (.putfield 25, 3) := by decide +kernel
theorem dX5_init_39 : decode cX5_init 39 = .ok (.aload_n 0, 1) := by decide +kernel
theorem dX5_init_40 : decode cX5_init 40 = .ok (.bipush 8, 2) := by decide +kernel
theorem dX5_init_42 : decode cX5_init 42 = .ok (.newarray .int, 2) := by decide +kernel
theorem dX5_init_44 : decode cX5_init 44 = .ok (.putfield 28, 3) := by decide +kernel
theorem dX5_init_47 : decode cX5_init 47 = .ok (.aload_n 0, 1) := by decide +kernel
theorem dX5_init_48 : decode cX5_init 48 = .ok (.sipush 6561, 3) := by decide +kernel
theorem dX5_init_51 : decode cX5_init 51 = .ok (.newarray .int, 2) := by decide +kernel
theorem dX5_init_53 : decode cX5_init 53 = .ok (.putfield 31, 3) := by decide +kernel
theorem dX5_init_56 : decode cX5_init 56 = .ok (.aload_n 0, 1) := by decide +kernel
theorem dX5_init_57 : decode cX5_init 57 = .ok (.aload_n 1, 1) := by decide +kernel
theorem dX5_init_58 : decode cX5_init 58 = .ok (.putfield 34, 3) := by decide +kernel
theorem dX5_init_61 : decode cX5_init 61 = .ok (.return_, 1) := by decide +kernel
theorem dX5_lies_0 : decode cX5_lies 0 = .ok (.iload_n 2, 1) := by decide +kernel
theorem dX5_lies_1 : decode cX5_lies 1 = .ok (.iload_n 1, 1) := by decide +kernel
theorem dX5_lies_2 : decode cX5_lies 2 = .ok (.ishr, 1) := by decide +kernel
theorem dX5_lies_3 : decode cX5_lies 3 = .ok (.iconst 1, 1) := by decide +kernel
theorem dX5_lies_4 : decode cX5_lies 4 = .ok (.iand, 1) := by decide +kernel
theorem dX5_lies_5 : decode cX5_lies 5 = .ok (.ifCond .eq 20, 3) := by decide +kernel
theorem dX5_lies_8 : decode cX5_lies 8 = .ok (.aload_n 0, 1) := by decide +kernel
theorem dX5_lies_9 : decode cX5_lies 9 = .ok (.getfield 34, 3) := by decide +kernel
theorem dX5_lies_12 : decode cX5_lies 12 = .ok (.getfield 38, 3) := by decide +kernel
theorem dX5_lies_15 : decode cX5_lies 15 = .ok (.iload_n 1, 1) := by decide +kernel
theorem dX5_lies_16 : decode cX5_lies 16 = .ok (.iaload, 1) := by decide +kernel
theorem dX5_lies_17 : decode cX5_lies 17 = .ok (.iconst 5, 1) := by decide +kernel
theorem dX5_lies_18 : decode cX5_lies 18 = .ok (.if_icmp .eq 7, 3) := by decide +kernel
theorem dX5_lies_21 : decode cX5_lies 21 = .ok (.iconst 1, 1) := by decide +kernel
theorem dX5_lies_22 : decode cX5_lies 22 = .ok (.goto 4, 3) := by decide +kernel
theorem dX5_lies_25 : decode cX5_lies 25 = .ok (.iconst 0, 1) := by decide +kernel
theorem dX5_lies_26 : decode cX5_lies 26 = .ok (.ireturn, 1) := by decide +kernel
theorem dX5_tiesOfLiars_0 : decode cX5_tiesOfLiars 0 = .ok (.iconst 0, 1) := by decide +kernel
theorem dX5_tiesOfLiars_1 : decode cX5_tiesOfLiars 1 = .ok (.istore_n 2, 1) := by decide +kernel
theorem dX5_tiesOfLiars_2 : decode cX5_tiesOfLiars 2 = .ok (.iconst 0, 1) := by decide +kernel
theorem dX5_tiesOfLiars_3 : decode cX5_tiesOfLiars 3 = .ok (.istore_n 3, 1) := by decide +kernel
theorem dX5_tiesOfLiars_4 : decode cX5_tiesOfLiars 4 = .ok (.iload_n 3, 1) := by decide +kernel
theorem dX5_tiesOfLiars_5 : decode cX5_tiesOfLiars 5 = .ok (.aload_n 0, 1) := by decide +kernel
theorem dX5_tiesOfLiars_6 : decode cX5_tiesOfLiars 6 = .ok (.getfield 34, 3) := by decide +kernel
theorem dX5_tiesOfLiars_9 : decode cX5_tiesOfLiars 9 = .ok (.getfield 43, 3) := by decide +kernel
theorem dX5_tiesOfLiars_12 : decode cX5_tiesOfLiars 12 = .ok (.if_icmp .ge 33, 3) := by decide +kernel
theorem dX5_tiesOfLiars_15 : decode cX5_tiesOfLiars 15 = .ok (.aload_n 0, 1) := by decide +kernel
theorem dX5_tiesOfLiars_16 : decode cX5_tiesOfLiars 16 = .ok (.iload_n 3, 1) := by decide +kernel
theorem dX5_tiesOfLiars_17 : decode cX5_tiesOfLiars 17 = .ok (.iload_n 1, 1) := by decide +kernel
theorem dX5_tiesOfLiars_18 : decode cX5_tiesOfLiars 18 = .ok (.invokevirtual 47, 3) := by decide +kernel
theorem dX5_tiesOfLiars_21 : decode cX5_tiesOfLiars 21 = .ok (.ifCond .eq 18, 3) := by decide +kernel
theorem dX5_tiesOfLiars_24 : decode cX5_tiesOfLiars 24 = .ok (.iload_n 2, 1) := by decide +kernel
theorem dX5_tiesOfLiars_25 : decode cX5_tiesOfLiars 25 = .ok (.aload_n 0, 1) := by decide +kernel
theorem dX5_tiesOfLiars_26 : decode cX5_tiesOfLiars 26 = .ok (.getfield 34, 3) := by decide +kernel
theorem dX5_tiesOfLiars_29 : decode cX5_tiesOfLiars 29 = .ok (.getfield 51, 3) := by decide +kernel
theorem dX5_tiesOfLiars_32 : decode cX5_tiesOfLiars 32 = .ok (.iload_n 3, 1) := by decide +kernel
theorem dX5_tiesOfLiars_33 : decode cX5_tiesOfLiars 33 = .ok (.iaload, 1) := by decide +kernel
theorem dX5_tiesOfLiars_34 : decode cX5_tiesOfLiars 34 = .ok (.invokestatic 54, 3) := by decide +kernel
theorem dX5_tiesOfLiars_37 : decode cX5_tiesOfLiars 37 = .ok (.iadd, 1) := by decide +kernel
theorem dX5_tiesOfLiars_38 : decode cX5_tiesOfLiars 38 = .ok (.istore_n 2, 1) := by decide +kernel
theorem dX5_tiesOfLiars_39 : decode cX5_tiesOfLiars 39 = .ok (.iinc 3 1, 3) := by decide +kernel
theorem dX5_tiesOfLiars_42 : decode cX5_tiesOfLiars 42 = .ok (.goto (-38), 3) := by decide +kernel
theorem dX5_tiesOfLiars_45 : decode cX5_tiesOfLiars 45 = .ok (.iload_n 2, 1) := by decide +kernel
theorem dX5_tiesOfLiars_46 : decode cX5_tiesOfLiars 46 = .ok (.ireturn, 1) := by decide +kernel
theorem dX5_spread_0 : decode cX5_spread 0 = .ok (.aload_n 0, 1) := by decide +kernel
theorem dX5_spread_1 : decode cX5_spread 1 = .ok (.iload_n 1, 1) := by decide +kernel
theorem dX5_spread_2 : decode cX5_spread 2 = .ok (.invokevirtual 60, 3) := by decide +kernel
theorem dX5_spread_5 : decode cX5_spread 5 = .ok (.aload_n 0, 1) := by decide +kernel
theorem dX5_spread_6 : decode cX5_spread 6 = .ok (.iload_n 1, 1) := by decide +kernel
theorem dX5_spread_7 : decode cX5_spread 7 = .ok (.invokevirtual 64, 3) := by decide +kernel
theorem dX5_spread_10 : decode cX5_spread 10 = .ok (.iconst 1, 1) := by decide +kernel
theorem dX5_spread_11 : decode cX5_spread 11 = .ok (.istore_n 2, 1) := by decide +kernel
theorem dX5_spread_12 : decode cX5_spread 12 = .ok (.iconst 0, 1) := by decide +kernel
theorem dX5_spread_13 : decode cX5_spread 13 = .ok (.istore_n 3, 1) := by decide +kernel
theorem dX5_spread_14 : decode cX5_spread 14 = .ok (.iload_n 3, 1) := by decide +kernel
theorem dX5_spread_15 : decode cX5_spread 15 = .ok (.aload_n 0, 1) := by decide +kernel
theorem dX5_spread_16 : decode cX5_spread 16 = .ok (.getfield 67, 3) := by decide +kernel
theorem dX5_spread_19 : decode cX5_spread 19 = .ok (.if_icmp .ge 13, 3) := by decide +kernel
theorem dX5_spread_22 : decode cX5_spread 22 = .ok (.iload_n 2, 1) := by decide +kernel
theorem dX5_spread_23 : decode cX5_spread 23 = .ok (.iconst 3, 1) := by decide +kernel
theorem dX5_spread_24 : decode cX5_spread 24 = .ok (.imul, 1) := by decide +kernel
theorem dX5_spread_25 : decode cX5_spread 25 = .ok (.istore_n 2, 1) := by decide +kernel
theorem dX5_spread_26 : decode cX5_spread 26 = .ok (.iinc 3 1, 3) := by decide +kernel
theorem dX5_spread_29 : decode cX5_spread 29 = .ok (.goto (-15), 3) := by decide +kernel
theorem dX5_spread_32 : decode cX5_spread 32 = .ok (.aload_n 0, 1) := by decide +kernel
theorem dX5_spread_33 : decode cX5_spread 33 = .ok (.iload_n 2, 1) := by decide +kernel
theorem dX5_spread_34 : decode cX5_spread 34 = .ok (.invokevirtual 70, 3) := by decide +kernel
theorem dX5_spread_37 : decode cX5_spread 37 = .ok (.aload_n 0, 1) := by decide +kernel
theorem dX5_spread_38 : decode cX5_spread 38 = .ok (.iload_n 2, 1) := by decide +kernel
theorem dX5_spread_39 : decode cX5_spread 39 = .ok (.invokevirtual 73, 3) := by decide +kernel
theorem dX5_spread_42 : decode cX5_spread 42 = .ok (.aload_n 0, 1) := by decide +kernel
theorem dX5_spread_43 : decode cX5_spread 43 = .ok (.iload_n 1, 1) := by decide +kernel
theorem dX5_spread_44 : decode cX5_spread 44 = .ok (.invokevirtual 76, 3) := by decide +kernel
theorem dX5_spread_47 : decode cX5_spread 47 = .ok (.return_, 1) := by decide +kernel
theorem dX5_listTies_0 : decode cX5_listTies 0 = .ok (.aload_n 0, 1) := by decide +kernel
theorem dX5_listTies_1 : decode cX5_listTies 1 = .ok (.iconst 0, 1) := by decide +kernel
theorem dX5_listTies_2 : decode cX5_listTies 2 = .ok (.putfield 67, 3) := by decide +kernel
theorem dX5_listTies_5 : decode cX5_listTies 5 = .ok (.iconst 0, 1) := by decide +kernel
theorem dX5_listTies_6 : decode cX5_listTies 6 = .ok (.istore_n 2, 1) := by decide +kernel
theorem dX5_listTies_7 : decode cX5_listTies 7 = .ok (.iload_n 2, 1) := by decide +kernel
theorem dX5_listTies_8 : decode cX5_listTies 8 = .ok (.aload_n 0, 1) := by decide +kernel
theorem dX5_listTies_9 : decode cX5_listTies 9 = .ok (.getfield 34, 3) := by decide +kernel
theorem dX5_listTies_12 : decode cX5_listTies 12 = .ok (.getfield 43, 3) := by decide +kernel
theorem dX5_listTies_15 : decode cX5_listTies 15 = .ok (.if_icmp .ge 132, 3) := by decide +kernel
theorem dX5_listTies_18 : decode cX5_listTies 18 = .ok (.iconst 0, 1) := by decide +kernel
theorem dX5_listTies_19 : decode cX5_listTies 19 = .ok (.istore_n 3, 1) := by decide +kernel
theorem dX5_listTies_20 : decode cX5_listTies 20 = .ok (.iload_n 3, 1) := by decide +kernel
theorem dX5_listTies_21 : decode cX5_listTies 21 = .ok (.aload_n 0, 1) := by decide +kernel
theorem dX5_listTies_22 : decode cX5_listTies 22 = .ok (.getfield 34, 3) := by decide +kernel
theorem dX5_listTies_25 : decode cX5_listTies 25 = .ok (.getfield 43, 3) := by decide +kernel
theorem dX5_listTies_28 : decode cX5_listTies 28 = .ok (.if_icmp .ge 113, 3) := by decide +kernel
theorem dX5_listTies_31 : decode cX5_listTies 31 = .ok (.aload_n 0, 1) := by decide +kernel
theorem dX5_listTies_32 : decode cX5_listTies 32 = .ok (.iload_n 2, 1) := by decide +kernel
theorem dX5_listTies_33 : decode cX5_listTies 33 = .ok (.iload_n 1, 1) := by decide +kernel
theorem dX5_listTies_34 : decode cX5_listTies 34 = .ok (.invokevirtual 47, 3) := by decide +kernel
theorem dX5_listTies_37 : decode cX5_listTies 37 = .ok (.ifCond .eq 98, 3) := by decide +kernel
theorem dX5_listTies_40 : decode cX5_listTies 40 = .ok (.aload_n 0, 1) := by decide +kernel
theorem dX5_listTies_41 : decode cX5_listTies 41 = .ok (.getfield 34, 3) := by decide +kernel
theorem dX5_listTies_44 : decode cX5_listTies 44 = .ok (.iload_n 2, 1) := by decide +kernel
theorem dX5_listTies_45 : decode cX5_listTies 45 = .ok (.iload_n 3, 1) := by decide +kernel
theorem dX5_listTies_46 : decode cX5_listTies 46 = .ok (.invokevirtual 79, 3) := by decide +kernel
theorem dX5_listTies_49 : decode cX5_listTies 49 = .ok (.ifCond .eq 86, 3) := by decide +kernel
theorem dX5_listTies_52 : decode cX5_listTies 52 = .ok (.aload_n 0, 1) := by decide +kernel
theorem dX5_listTies_53 : decode cX5_listTies 53 = .ok (.getfield 67, 3) := by decide +kernel
theorem dX5_listTies_56 : decode cX5_listTies 56 = .ok (.bipush 8, 2) := by decide +kernel
theorem dX5_listTies_58 : decode cX5_listTies 58 = .ok (.if_icmp .ge 77, 3) := by decide +kernel
theorem dX5_listTies_61 : decode cX5_listTies 61 = .ok (.aload_n 0, 1) := by decide +kernel
theorem dX5_listTies_62 : decode cX5_listTies 62 = .ok (.getfield 18, 3) := by decide +kernel
theorem dX5_listTies_65 : decode cX5_listTies 65 = .ok (.aload_n 0, 1) := by decide +kernel
theorem dX5_listTies_66 : decode cX5_listTies 66 = .ok (.getfield 67, 3) := by decide +kernel
theorem dX5_listTies_69 : decode cX5_listTies 69 = .ok (.iload_n 2, 1) := by decide +kernel
theorem dX5_listTies_70 : decode cX5_listTies 70 = .ok (.iastore, 1) := by decide +kernel
theorem dX5_listTies_71 : decode cX5_listTies 71 = .ok (.aload_n 0, 1) := by decide +kernel
theorem dX5_listTies_72 : decode cX5_listTies 72 = .ok (.getfield 22, 3) := by decide +kernel
theorem dX5_listTies_75 : decode cX5_listTies 75 = .ok (.aload_n 0, 1) := by decide +kernel
theorem dX5_listTies_76 : decode cX5_listTies 76 = .ok (.getfield 67, 3) := by decide +kernel
theorem dX5_listTies_79 : decode cX5_listTies 79 = .ok (.iload_n 3, 1) := by decide +kernel
theorem dX5_listTies_80 : decode cX5_listTies 80 = .ok (.iastore, 1) := by decide +kernel
theorem dX5_listTies_81 : decode cX5_listTies 81 = .ok (.aload_n 0, 1) := by decide +kernel
theorem dX5_listTies_82 : decode cX5_listTies 82 = .ok (.getfield 25, 3) := by decide +kernel
theorem dX5_listTies_85 : decode cX5_listTies 85 = .ok (.aload_n 0, 1) := by decide +kernel
theorem dX5_listTies_86 : decode cX5_listTies 86 = .ok (.getfield 67, 3) := by decide +kernel
theorem dX5_listTies_89 : decode cX5_listTies 89 = .ok (.aload_n 0, 1) := by decide +kernel
theorem dX5_listTies_90 : decode cX5_listTies 90 = .ok (.getfield 34, 3) := by decide +kernel
theorem dX5_listTies_93 : decode cX5_listTies 93 = .ok (.getfield 38, 3) := by decide +kernel
theorem dX5_listTies_96 : decode cX5_listTies 96 = .ok (.iload_n 2, 1) := by decide +kernel
theorem dX5_listTies_97 : decode cX5_listTies 97 = .ok (.iaload, 1) := by decide +kernel
theorem dX5_listTies_98 : decode cX5_listTies 98 = .ok (.iconst 1, 1) := by decide +kernel
theorem dX5_listTies_99 : decode cX5_listTies 99 = .ok (.invokestatic 82, 3) := by decide +kernel
theorem dX5_listTies_102 : decode cX5_listTies 102 = .ok (.iastore, 1) := by decide +kernel
theorem dX5_listTies_103 : decode cX5_listTies 103 = .ok (.aload_n 0, 1) := by decide +kernel
theorem dX5_listTies_104 : decode cX5_listTies 104 = .ok (.getfield 28, 3) := by decide +kernel
theorem dX5_listTies_107 : decode cX5_listTies 107 = .ok (.aload_n 0, 1) := by decide +kernel
theorem dX5_listTies_108 : decode cX5_listTies 108 = .ok (.getfield 67, 3) := by decide +kernel
theorem dX5_listTies_111 : decode cX5_listTies 111 = .ok (.aload_n 0, 1) := by decide +kernel
theorem dX5_listTies_112 : decode cX5_listTies 112 = .ok (.getfield 34, 3) := by decide +kernel
theorem dX5_listTies_115 : decode cX5_listTies 115 = .ok (.getfield 38, 3) := by decide +kernel
theorem dX5_listTies_118 : decode cX5_listTies 118 = .ok (.iload_n 2, 1) := by decide +kernel
theorem dX5_listTies_119 : decode cX5_listTies 119 = .ok (.iaload, 1) := by decide +kernel
theorem dX5_listTies_120 : decode cX5_listTies 120 = .ok (.iconst 0, 1) := by decide +kernel
theorem dX5_listTies_121 : decode cX5_listTies 121 = .ok (.invokestatic 82, 3) := by decide +kernel
theorem dX5_listTies_124 : decode cX5_listTies 124 = .ok (.iastore, 1) := by decide +kernel
theorem dX5_listTies_125 : decode cX5_listTies 125 = .ok (.aload_n 0, 1) := by decide +kernel
theorem dX5_listTies_126 : decode cX5_listTies 126 = .ok (.dup, 1) := by decide +kernel
theorem dX5_listTies_127 : decode cX5_listTies 127 = .ok (.getfield 67, 3) := by decide +kernel
theorem dX5_listTies_130 : decode cX5_listTies 130 = .ok (.iconst 1, 1) := by decide +kernel
theorem dX5_listTies_131 : decode cX5_listTies 131 = .ok (.iadd, 1) := by decide +kernel
theorem dX5_listTies_132 : decode cX5_listTies 132 = .ok (.putfield 67, 3) := by decide +kernel
theorem dX5_listTies_135 : decode cX5_listTies 135 = .ok (.iinc 3 1, 3) := by decide +kernel
theorem dX5_listTies_138 : decode cX5_listTies 138 = .ok (.goto (-118), 3) := by decide +kernel
theorem dX5_listTies_141 : decode cX5_listTies 141 = .ok (.iinc 2 1, 3) := by decide +kernel
theorem dX5_listTies_144 : decode cX5_listTies 144 = .ok (.goto (-137), 3) := by decide +kernel
theorem dX5_listTies_147 : decode cX5_listTies 147 = .ok (.return_, 1) := by decide +kernel
theorem dX5_hearWhole_0 : decode cX5_hearWhole 0 = .ok (.aload_n 0, 1) := by decide +kernel
theorem dX5_hearWhole_1 : decode cX5_hearWhole 1 = .ok (.getfield 12, 3) := by decide +kernel
theorem dX5_hearWhole_4 : decode cX5_hearWhole 4 = .ok (.invokevirtual 88, 3) := by decide +kernel
theorem dX5_hearWhole_7 : decode cX5_hearWhole 7 = .ok (.iconst 0, 1) := by decide +kernel
theorem dX5_hearWhole_8 : decode cX5_hearWhole 8 = .ok (.istore_n 2, 1) := by decide +kernel
theorem dX5_hearWhole_9 : decode cX5_hearWhole 9 = .ok (.iload_n 2, 1) := by decide +kernel
theorem dX5_hearWhole_10 : decode cX5_hearWhole 10 = .ok (.aload_n 0, 1) := by decide +kernel
theorem dX5_hearWhole_11 : decode cX5_hearWhole 11 = .ok (.getfield 34, 3) := by decide +kernel
theorem dX5_hearWhole_14 : decode cX5_hearWhole 14 = .ok (.getfield 43, 3) := by decide +kernel
theorem dX5_hearWhole_17 : decode cX5_hearWhole 17 = .ok (.if_icmp .ge 86, 3) := by decide +kernel
theorem dX5_hearWhole_20 : decode cX5_hearWhole 20 = .ok (.iconst 0, 1) := by decide +kernel
theorem dX5_hearWhole_21 : decode cX5_hearWhole 21 = .ok (.istore_n 3, 1) := by decide +kernel
theorem dX5_hearWhole_22 : decode cX5_hearWhole 22 = .ok (.iload_n 3, 1) := by decide +kernel
theorem dX5_hearWhole_23 : decode cX5_hearWhole 23 = .ok (.aload_n 0, 1) := by decide +kernel
theorem dX5_hearWhole_24 : decode cX5_hearWhole 24 = .ok (.getfield 34, 3) := by decide +kernel
theorem dX5_hearWhole_27 : decode cX5_hearWhole 27 = .ok (.getfield 43, 3) := by decide +kernel
theorem dX5_hearWhole_30 : decode cX5_hearWhole 30 = .ok (.if_icmp .ge 67, 3) := by decide +kernel
theorem dX5_hearWhole_33 : decode cX5_hearWhole 33 = .ok (.iload_n 1, 1) := by decide +kernel
theorem dX5_hearWhole_34 : decode cX5_hearWhole 34 = .ok (.iload_n 2, 1) := by decide +kernel
theorem dX5_hearWhole_35 : decode cX5_hearWhole 35 = .ok (.ishr, 1) := by decide +kernel
theorem dX5_hearWhole_36 : decode cX5_hearWhole 36 = .ok (.iconst 1, 1) := by decide +kernel
theorem dX5_hearWhole_37 : decode cX5_hearWhole 37 = .ok (.iand, 1) := by decide +kernel
theorem dX5_hearWhole_38 : decode cX5_hearWhole 38 = .ok (.ifCond .ne 53, 3) := by decide +kernel
theorem dX5_hearWhole_41 : decode cX5_hearWhole 41 = .ok (.aload_n 0, 1) := by decide +kernel
theorem dX5_hearWhole_42 : decode cX5_hearWhole 42 = .ok (.getfield 34, 3) := by decide +kernel
theorem dX5_hearWhole_45 : decode cX5_hearWhole 45 = .ok (.iload_n 2, 1) := by decide +kernel
theorem dX5_hearWhole_46 : decode cX5_hearWhole 46 = .ok (.iload_n 3, 1) := by decide +kernel
theorem dX5_hearWhole_47 : decode cX5_hearWhole 47 = .ok (.invokevirtual 79, 3) := by decide +kernel
theorem dX5_hearWhole_50 : decode cX5_hearWhole 50 = .ok (.ifCond .eq 41, 3) := by decide +kernel
theorem dX5_hearWhole_53 : decode cX5_hearWhole 53 = .ok (.iload_n 1, 1) := by decide +kernel
theorem dX5_hearWhole_54 : decode cX5_hearWhole 54 = .ok (.iload_n 3, 1) := by decide +kernel
theorem dX5_hearWhole_55 : decode cX5_hearWhole 55 = .ok (.ishr, 1) := by decide +kernel
theorem dX5_hearWhole_56 : decode cX5_hearWhole 56 = .ok (.iconst 1, 1) := by decide +kernel
theorem dX5_hearWhole_57 : decode cX5_hearWhole 57 = .ok (.iand, 1) := by decide +kernel
theorem dX5_hearWhole_58 : decode cX5_hearWhole 58 = .ok (.ifCond .ne 7, 3) := by decide +kernel
theorem dX5_hearWhole_61 : decode cX5_hearWhole 61 = .ok (.iconst 1, 1) := by decide +kernel
theorem dX5_hearWhole_62 : decode cX5_hearWhole 62 = .ok (.goto 4, 3) := by decide +kernel
theorem dX5_hearWhole_65 : decode cX5_hearWhole 65 = .ok (.iconst 0, 1) := by decide +kernel
theorem dX5_hearWhole_66 : decode cX5_hearWhole 66 = .ok (.istore 4, 2) := by decide +kernel
theorem dX5_hearWhole_68 : decode cX5_hearWhole 68 = .ok (.aload_n 0, 1) := by decide +kernel
theorem dX5_hearWhole_69 : decode cX5_hearWhole 69 = .ok (.getfield 12, 3) := by decide +kernel
theorem dX5_hearWhole_72 : decode cX5_hearWhole 72 = .ok (.aload_n 0, 1) := by decide +kernel
theorem dX5_hearWhole_73 : decode cX5_hearWhole 73 = .ok (.getfield 34, 3) := by decide +kernel
theorem dX5_hearWhole_76 : decode cX5_hearWhole 76 = .ok (.getfield 38, 3) := by decide +kernel
theorem dX5_hearWhole_79 : decode cX5_hearWhole 79 = .ok (.iload_n 2, 1) := by decide +kernel
theorem dX5_hearWhole_80 : decode cX5_hearWhole 80 = .ok (.iaload, 1) := by decide +kernel
theorem dX5_hearWhole_81 : decode cX5_hearWhole 81 = .ok (.iload 4, 2) := by decide +kernel
theorem dX5_hearWhole_83 : decode cX5_hearWhole 83 = .ok (.invokestatic 82, 3) := by decide +kernel
theorem dX5_hearWhole_86 : decode cX5_hearWhole 86 = .ok (.iload_n 2, 1) := by decide +kernel
theorem dX5_hearWhole_87 : decode cX5_hearWhole 87 = .ok (.iload_n 3, 1) := by decide +kernel
theorem dX5_hearWhole_88 : decode cX5_hearWhole 88 = .ok (.invokevirtual 91, 3) := by decide +kernel
theorem dX5_hearWhole_91 : decode cX5_hearWhole 91 = .ok (.iinc 3 1, 3) := by decide +kernel
theorem dX5_hearWhole_94 : decode cX5_hearWhole 94 = .ok (.goto (-72), 3) := by decide +kernel
theorem dX5_hearWhole_97 : decode cX5_hearWhole 97 = .ok (.iinc 2 1, 3) := by decide +kernel
theorem dX5_hearWhole_100 : decode cX5_hearWhole 100 = .ok (.goto (-91), 3) := by decide +kernel
theorem dX5_hearWhole_103 : decode cX5_hearWhole 103 = .ok (.aload_n 0, 1) := by decide +kernel
theorem dX5_hearWhole_104 : decode cX5_hearWhole 104 = .ok (.getfield 12, 3) := by decide +kernel
theorem dX5_hearWhole_107 : decode cX5_hearWhole 107 = .ok (.aload_n 0, 1) := by decide +kernel
theorem dX5_hearWhole_108 : decode cX5_hearWhole 108 = .ok (.getfield 34, 3) := by decide +kernel
theorem dX5_hearWhole_111 : decode cX5_hearWhole 111 = .ok (.getfield 43, 3) := by decide +kernel
theorem dX5_hearWhole_114 : decode cX5_hearWhole 114 = .ok (.invokevirtual 95, 3) := by decide +kernel
theorem dX5_hearWhole_117 : decode cX5_hearWhole 117 = .ok (.return_, 1) := by decide +kernel
theorem dX5_countStances_0 : decode cX5_countStances 0 = .ok (.iconst 0, 1) := by decide +kernel
theorem dX5_countStances_1 : decode cX5_countStances 1 = .ok (.istore_n 2, 1) := by decide +kernel
theorem dX5_countStances_2 : decode cX5_countStances 2 = .ok (.iload_n 2, 1) := by decide +kernel
theorem dX5_countStances_3 : decode cX5_countStances 3 = .ok (.iload_n 1, 1) := by decide +kernel
theorem dX5_countStances_4 : decode cX5_countStances 4 = .ok (.if_icmp .ge 16, 3) := by decide +kernel
theorem dX5_countStances_7 : decode cX5_countStances 7 = .ok (.aload_n 0, 1) := by decide +kernel
theorem dX5_countStances_8 : decode cX5_countStances 8 = .ok (.getfield 31, 3) := by decide +kernel
theorem dX5_countStances_11 : decode cX5_countStances 11 = .ok (.iload_n 2, 1) := by decide +kernel
theorem dX5_countStances_12 : decode cX5_countStances 12 = .ok (.iconst 0, 1) := by decide +kernel
theorem dX5_countStances_13 : decode cX5_countStances 13 = .ok (.iastore, 1) := by decide +kernel
theorem dX5_countStances_14 : decode cX5_countStances 14 = .ok (.iinc 2 1, 3) := by decide +kernel
theorem dX5_countStances_17 : decode cX5_countStances 17 = .ok (.goto (-15), 3) := by decide +kernel
theorem dX5_countStances_20 : decode cX5_countStances 20 = .ok (.aload_n 0, 1) := by decide +kernel
theorem dX5_countStances_21 : decode cX5_countStances 21 = .ok (.getfield 34, 3) := by decide +kernel
theorem dX5_countStances_24 : decode cX5_countStances 24 = .ok (.invokevirtual 98, 3) := by decide +kernel
theorem dX5_countStances_27 : decode cX5_countStances 27 = .ok (.istore_n 2, 1) := by decide +kernel
theorem dX5_countStances_28 : decode cX5_countStances 28 = .ok (.iconst 0, 1) := by decide +kernel
theorem dX5_countStances_29 : decode cX5_countStances 29 = .ok (.istore_n 3, 1) := by decide +kernel
theorem dX5_countStances_30 : decode cX5_countStances 30 = .ok (.iload_n 3, 1) := by decide +kernel
theorem dX5_countStances_31 : decode cX5_countStances 31 = .ok (.iload_n 2, 1) := by decide +kernel
theorem dX5_countStances_32 : decode cX5_countStances 32 = .ok (.if_icmp .gt 49, 3) := by decide +kernel
theorem dX5_countStances_35 : decode cX5_countStances 35 = .ok (.aload_n 0, 1) := by decide +kernel
theorem dX5_countStances_36 : decode cX5_countStances 36 = .ok (.getfield 12, 3) := by decide +kernel
theorem dX5_countStances_39 : decode cX5_countStances 39 = .ok (.getfield 102, 3) := by decide +kernel
theorem dX5_countStances_42 : decode cX5_countStances 42 = .ok (.iload_n 3, 1) := by decide +kernel
theorem dX5_countStances_43 : decode cX5_countStances 43 = .ok (.iaload, 1) := by decide +kernel
theorem dX5_countStances_44 : decode cX5_countStances 44 = .ok (.ifCond .ne 31, 3) := by decide +kernel
theorem dX5_countStances_47 : decode cX5_countStances 47 = .ok (.iload_n 3, 1) := by decide +kernel
theorem dX5_countStances_48 : decode cX5_countStances 48 = .ok (.invokestatic 54, 3) := by decide +kernel
theorem dX5_countStances_51 : decode cX5_countStances 51 = .ok (.aload_n 0, 1) := by decide +kernel
theorem dX5_countStances_52 : decode cX5_countStances 52 = .ok (.getfield 34, 3) := by decide +kernel
theorem dX5_countStances_55 : decode cX5_countStances 55 = .ok (.getfield 105, 3) := by decide +kernel
theorem dX5_countStances_58 : decode cX5_countStances 58 = .ok (.if_icmp .gt 17, 3) := by decide +kernel
theorem dX5_countStances_61 : decode cX5_countStances 61 = .ok (.aload_n 0, 1) := by decide +kernel
theorem dX5_countStances_62 : decode cX5_countStances 62 = .ok (.getfield 31, 3) := by decide +kernel
theorem dX5_countStances_65 : decode cX5_countStances 65 = .ok (.aload_n 0, 1) := by decide +kernel
theorem dX5_countStances_66 : decode cX5_countStances 66 = .ok (.iload_n 3, 1) := by decide +kernel
theorem dX5_countStances_67 : decode cX5_countStances 67 = .ok (.invokevirtual 108, 3) := by decide +kernel
theorem dX5_countStances_70 : decode cX5_countStances 70 = .ok (.dup2, 1) := by decide +kernel
theorem dX5_countStances_71 : decode cX5_countStances 71 = .ok (.iaload, 1) := by decide +kernel
theorem dX5_countStances_72 : decode cX5_countStances 72 = .ok (.iconst 1, 1) := by decide +kernel
theorem dX5_countStances_73 : decode cX5_countStances 73 = .ok (.iadd, 1) := by decide +kernel
theorem dX5_countStances_74 : decode cX5_countStances 74 = .ok (.iastore, 1) := by decide +kernel
theorem dX5_countStances_75 : decode cX5_countStances 75 = .ok (.iinc 3 1, 3) := by decide +kernel
theorem dX5_countStances_78 : decode cX5_countStances 78 = .ok (.goto (-48), 3) := by decide +kernel
theorem dX5_countStances_81 : decode cX5_countStances 81 = .ok (.return_, 1) := by decide +kernel
theorem dX5_stancesOf_0 : decode cX5_stancesOf 0 = .ok (.iconst 0, 1) := by decide +kernel
theorem dX5_stancesOf_1 : decode cX5_stancesOf 1 = .ok (.istore_n 2, 1) := by decide +kernel
theorem dX5_stancesOf_2 : decode cX5_stancesOf 2 = .ok (.aload_n 0, 1) := by decide +kernel
theorem dX5_stancesOf_3 : decode cX5_stancesOf 3 = .ok (.getfield 67, 3) := by decide +kernel
theorem dX5_stancesOf_6 : decode cX5_stancesOf 6 = .ok (.iconst 1, 1) := by decide +kernel
theorem dX5_stancesOf_7 : decode cX5_stancesOf 7 = .ok (.isub, 1) := by decide +kernel
theorem dX5_stancesOf_8 : decode cX5_stancesOf 8 = .ok (.istore_n 3, 1) := by decide +kernel
theorem dX5_stancesOf_9 : decode cX5_stancesOf 9 = .ok (.iload_n 3, 1) := by decide +kernel
theorem dX5_stancesOf_10 : decode cX5_stancesOf 10 = .ok (.ifCond .lt 20, 3) := by decide +kernel
theorem dX5_stancesOf_13 : decode cX5_stancesOf 13 = .ok (.iload_n 2, 1) := by decide +kernel
theorem dX5_stancesOf_14 : decode cX5_stancesOf 14 = .ok (.iconst 3, 1) := by decide +kernel
theorem dX5_stancesOf_15 : decode cX5_stancesOf 15 = .ok (.imul, 1) := by decide +kernel
theorem dX5_stancesOf_16 : decode cX5_stancesOf 16 = .ok (.aload_n 0, 1) := by decide +kernel
theorem dX5_stancesOf_17 : decode cX5_stancesOf 17 = .ok (.iload_n 1, 1) := by decide +kernel
theorem dX5_stancesOf_18 : decode cX5_stancesOf 18 = .ok (.iload_n 3, 1) := by decide +kernel
theorem dX5_stancesOf_19 : decode cX5_stancesOf 19 = .ok (.invokevirtual 111, 3) := by decide +kernel
theorem dX5_stancesOf_22 : decode cX5_stancesOf 22 = .ok (.iadd, 1) := by decide +kernel
theorem dX5_stancesOf_23 : decode cX5_stancesOf 23 = .ok (.istore_n 2, 1) := by decide +kernel
theorem dX5_stancesOf_24 : decode cX5_stancesOf 24 = .ok (.iinc 3 (-1), 3) := by decide +kernel
theorem dX5_stancesOf_27 : decode cX5_stancesOf 27 = .ok (.goto (-18), 3) := by decide +kernel
theorem dX5_stancesOf_30 : decode cX5_stancesOf 30 = .ok (.iload_n 2, 1) := by decide +kernel
theorem dX5_stancesOf_31 : decode cX5_stancesOf 31 = .ok (.ireturn, 1) := by decide +kernel
theorem dX5_stanceOf_0 : decode cX5_stanceOf 0 = .ok (.aload_n 0, 1) := by decide +kernel
theorem dX5_stanceOf_1 : decode cX5_stanceOf 1 = .ok (.getfield 25, 3) := by decide +kernel
theorem dX5_stanceOf_4 : decode cX5_stanceOf 4 = .ok (.iload_n 2, 1) := by decide +kernel
theorem dX5_stanceOf_5 : decode cX5_stanceOf 5 = .ok (.iaload, 1) := by decide +kernel
theorem dX5_stanceOf_6 : decode cX5_stanceOf 6 = .ok (.iload_n 1, 1) := by decide +kernel
theorem dX5_stanceOf_7 : decode cX5_stanceOf 7 = .ok (.aload_n 0, 1) := by decide +kernel
theorem dX5_stanceOf_8 : decode cX5_stanceOf 8 = .ok (.getfield 18, 3) := by decide +kernel
theorem dX5_stanceOf_11 : decode cX5_stanceOf 11 = .ok (.iload_n 2, 1) := by decide +kernel
theorem dX5_stanceOf_12 : decode cX5_stanceOf 12 = .ok (.iaload, 1) := by decide +kernel
theorem dX5_stanceOf_13 : decode cX5_stanceOf 13 = .ok (.aload_n 0, 1) := by decide +kernel
theorem dX5_stanceOf_14 : decode cX5_stanceOf 14 = .ok (.getfield 22, 3) := by decide +kernel
theorem dX5_stanceOf_17 : decode cX5_stanceOf 17 = .ok (.iload_n 2, 1) := by decide +kernel
theorem dX5_stanceOf_18 : decode cX5_stanceOf 18 = .ok (.iaload, 1) := by decide +kernel
theorem dX5_stanceOf_19 : decode cX5_stanceOf 19 = .ok (.invokestatic 115, 3) := by decide +kernel
theorem dX5_stanceOf_22 : decode cX5_stanceOf 22 = .ok (.ifCond .ne 5, 3) := by decide +kernel
theorem dX5_stanceOf_25 : decode cX5_stanceOf 25 = .ok (.iconst 0, 1) := by decide +kernel
theorem dX5_stanceOf_26 : decode cX5_stanceOf 26 = .ok (.ireturn, 1) := by decide +kernel
theorem dX5_stanceOf_27 : decode cX5_stanceOf 27 = .ok (.aload_n 0, 1) := by decide +kernel
theorem dX5_stanceOf_28 : decode cX5_stanceOf 28 = .ok (.getfield 28, 3) := by decide +kernel
theorem dX5_stanceOf_31 : decode cX5_stanceOf 31 = .ok (.iload_n 2, 1) := by decide +kernel
theorem dX5_stanceOf_32 : decode cX5_stanceOf 32 = .ok (.iaload, 1) := by decide +kernel
theorem dX5_stanceOf_33 : decode cX5_stanceOf 33 = .ok (.iload_n 1, 1) := by decide +kernel
theorem dX5_stanceOf_34 : decode cX5_stanceOf 34 = .ok (.aload_n 0, 1) := by decide +kernel
theorem dX5_stanceOf_35 : decode cX5_stanceOf 35 = .ok (.getfield 18, 3) := by decide +kernel
theorem dX5_stanceOf_38 : decode cX5_stanceOf 38 = .ok (.iload_n 2, 1) := by decide +kernel
theorem dX5_stanceOf_39 : decode cX5_stanceOf 39 = .ok (.iaload, 1) := by decide +kernel
theorem dX5_stanceOf_40 : decode cX5_stanceOf 40 = .ok (.aload_n 0, 1) := by decide +kernel
theorem dX5_stanceOf_41 : decode cX5_stanceOf 41 = .ok (.getfield 22, 3) := by decide +kernel
theorem dX5_stanceOf_44 : decode cX5_stanceOf 44 = .ok (.iload_n 2, 1) := by decide +kernel
theorem dX5_stanceOf_45 : decode cX5_stanceOf 45 = .ok (.iaload, 1) := by decide +kernel
theorem dX5_stanceOf_46 : decode cX5_stanceOf 46 = .ok (.invokestatic 115, 3) := by decide +kernel
theorem dX5_stanceOf_49 : decode cX5_stanceOf 49 = .ok (.ifCond .eq 7, 3) := by decide +kernel
theorem dX5_stanceOf_52 : decode cX5_stanceOf 52 = .ok (.iconst 2, 1) := by decide +kernel
theorem dX5_stanceOf_53 : decode cX5_stanceOf 53 = .ok (.goto 4, 3) := by decide +kernel
theorem dX5_stanceOf_56 : decode cX5_stanceOf 56 = .ok (.iconst 1, 1) := by decide +kernel
theorem dX5_stanceOf_57 : decode cX5_stanceOf 57 = .ok (.ireturn, 1) := by decide +kernel
theorem dX5_shareEither_0 : decode cX5_shareEither 0 = .ok (.iconst 1, 1) := by decide +kernel
theorem dX5_shareEither_1 : decode cX5_shareEither 1 = .ok (.istore_n 2, 1) := by decide +kernel
theorem dX5_shareEither_2 : decode cX5_shareEither 2 = .ok (.iload_n 2, 1) := by decide +kernel
theorem dX5_shareEither_3 : decode cX5_shareEither 3 = .ok (.iload_n 1, 1) := by decide +kernel
theorem dX5_shareEither_4 : decode cX5_shareEither 4 = .ok (.if_icmp .ge 88, 3) := by decide +kernel
theorem dX5_shareEither_7 : decode cX5_shareEither 7 = .ok (.iconst 0, 1) := by decide +kernel
theorem dX5_shareEither_8 : decode cX5_shareEither 8 = .ok (.istore_n 3, 1) := by decide +kernel
theorem dX5_shareEither_9 : decode cX5_shareEither 9 = .ok (.iload_n 3, 1) := by decide +kernel
theorem dX5_shareEither_10 : decode cX5_shareEither 10 = .ok (.iload_n 1, 1) := by decide +kernel
theorem dX5_shareEither_11 : decode cX5_shareEither 11 = .ok (.if_icmp .ge 74, 3) := by decide +kernel
theorem dX5_shareEither_14 : decode cX5_shareEither 14 = .ok (.iload_n 3, 1) := by decide +kernel
theorem dX5_shareEither_15 : decode cX5_shareEither 15 = .ok (.istore 4, 2) := by decide +kernel
theorem dX5_shareEither_17 : decode cX5_shareEither 17 = .ok (.iload 4, 2) := by decide +kernel
theorem dX5_shareEither_19 : decode cX5_shareEither 19 = .ok (.iload_n 3, 1) := by decide +kernel
theorem dX5_shareEither_20 : decode cX5_shareEither 20 = .ok (.iload_n 2, 1) := by decide +kernel
theorem dX5_shareEither_21 : decode cX5_shareEither 21 = .ok (.iadd, 1) := by decide +kernel
theorem dX5_shareEither_22 : decode cX5_shareEither 22 = .ok (.if_icmp .ge 54, 3) := by decide +kernel
theorem dX5_shareEither_25 : decode cX5_shareEither 25 = .ok (.aload_n 0, 1) := by decide +kernel
theorem dX5_shareEither_26 : decode cX5_shareEither 26 = .ok (.getfield 31, 3) := by decide +kernel
theorem dX5_shareEither_29 : decode cX5_shareEither 29 = .ok (.iload 4, 2) := by decide +kernel
theorem dX5_shareEither_31 : decode cX5_shareEither 31 = .ok (.iconst 2, 1) := by decide +kernel
theorem dX5_shareEither_32 : decode cX5_shareEither 32 = .ok (.iload_n 2, 1) := by decide +kernel
theorem dX5_shareEither_33 : decode cX5_shareEither 33 = .ok (.imul, 1) := by decide +kernel
theorem dX5_shareEither_34 : decode cX5_shareEither 34 = .ok (.iadd, 1) := by decide +kernel
theorem dX5_shareEither_35 : decode cX5_shareEither 35 = .ok (.iaload, 1) := by decide +kernel
theorem dX5_shareEither_36 : decode cX5_shareEither 36 = .ok (.istore 5, 2) := by decide +kernel
theorem dX5_shareEither_38 : decode cX5_shareEither 38 = .ok (.aload_n 0, 1) := by decide +kernel
theorem dX5_shareEither_39 : decode cX5_shareEither 39 = .ok (.getfield 31, 3) := by decide +kernel
theorem dX5_shareEither_42 : decode cX5_shareEither 42 = .ok (.iload 4, 2) := by decide +kernel
theorem dX5_shareEither_44 : decode cX5_shareEither 44 = .ok (.iconst 0, 1) := by decide +kernel
theorem dX5_shareEither_45 : decode cX5_shareEither 45 = .ok (.iload_n 2, 1) := by decide +kernel
theorem dX5_shareEither_46 : decode cX5_shareEither 46 = .ok (.imul, 1) := by decide +kernel
theorem dX5_shareEither_47 : decode cX5_shareEither 47 = .ok (.iadd, 1) := by decide +kernel
theorem dX5_shareEither_48 : decode cX5_shareEither 48 = .ok (.dup2, 1) := by decide +kernel
theorem dX5_shareEither_49 : decode cX5_shareEither 49 = .ok (.iaload, 1) := by decide +kernel
theorem dX5_shareEither_50 : decode cX5_shareEither 50 = .ok (.iload 5, 2) := by decide +kernel
theorem dX5_shareEither_52 : decode cX5_shareEither 52 = .ok (.iadd, 1) := by decide +kernel
theorem dX5_shareEither_53 : decode cX5_shareEither 53 = .ok (.iastore, 1) := by decide +kernel
theorem dX5_shareEither_54 : decode cX5_shareEither 54 = .ok (.aload_n 0, 1) := by decide +kernel
theorem dX5_shareEither_55 : decode cX5_shareEither 55 = .ok (.getfield 31, 3) := by decide +kernel
theorem dX5_shareEither_58 : decode cX5_shareEither 58 = .ok (.iload 4, 2) := by decide +kernel
theorem dX5_shareEither_60 : decode cX5_shareEither 60 = .ok (.iconst 1, 1) := by decide +kernel
theorem dX5_shareEither_61 : decode cX5_shareEither 61 = .ok (.iload_n 2, 1) := by decide +kernel
theorem dX5_shareEither_62 : decode cX5_shareEither 62 = .ok (.imul, 1) := by decide +kernel
theorem dX5_shareEither_63 : decode cX5_shareEither 63 = .ok (.iadd, 1) := by decide +kernel
theorem dX5_shareEither_64 : decode cX5_shareEither 64 = .ok (.dup2, 1) := by decide +kernel
theorem dX5_shareEither_65 : decode cX5_shareEither 65 = .ok (.iaload, 1) := by decide +kernel
theorem dX5_shareEither_66 : decode cX5_shareEither 66 = .ok (.iload 5, 2) := by decide +kernel
theorem dX5_shareEither_68 : decode cX5_shareEither 68 = .ok (.iadd, 1) := by decide +kernel
theorem dX5_shareEither_69 : decode cX5_shareEither 69 = .ok (.iastore, 1) := by decide +kernel
theorem dX5_shareEither_70 : decode cX5_shareEither 70 = .ok (.iinc 4 1, 3) := by decide +kernel
theorem dX5_shareEither_73 : decode cX5_shareEither 73 = .ok (.goto (-56), 3) := by decide +kernel
theorem dX5_shareEither_76 : decode cX5_shareEither 76 = .ok (.iload_n 3, 1) := by decide +kernel
theorem dX5_shareEither_77 : decode cX5_shareEither 77 = .ok (.iconst 3, 1) := by decide +kernel
theorem dX5_shareEither_78 : decode cX5_shareEither 78 = .ok (.iload_n 2, 1) := by decide +kernel
theorem dX5_shareEither_79 : decode cX5_shareEither 79 = .ok (.imul, 1) := by decide +kernel
theorem dX5_shareEither_80 : decode cX5_shareEither 80 = .ok (.iadd, 1) := by decide +kernel
theorem dX5_shareEither_81 : decode cX5_shareEither 81 = .ok (.istore_n 3, 1) := by decide +kernel
theorem dX5_shareEither_82 : decode cX5_shareEither 82 = .ok (.goto (-73), 3) := by decide +kernel
theorem dX5_shareEither_85 : decode cX5_shareEither 85 = .ok (.iload_n 2, 1) := by decide +kernel
theorem dX5_shareEither_86 : decode cX5_shareEither 86 = .ok (.iconst 3, 1) := by decide +kernel
theorem dX5_shareEither_87 : decode cX5_shareEither 87 = .ok (.imul, 1) := by decide +kernel
theorem dX5_shareEither_88 : decode cX5_shareEither 88 = .ok (.istore_n 2, 1) := by decide +kernel
theorem dX5_shareEither_89 : decode cX5_shareEither 89 = .ok (.goto (-87), 3) := by decide +kernel
theorem dX5_shareEither_92 : decode cX5_shareEither 92 = .ok (.return_, 1) := by decide +kernel
theorem dX5_choose_0 : decode cX5_choose 0 = .ok (.aload_n 0, 1) := by decide +kernel
theorem dX5_choose_1 : decode cX5_choose 1 = .ok (.iconst (-1), 1) := by decide +kernel
theorem dX5_choose_2 : decode cX5_choose 2 = .ok (.putfield 119, 3) := by decide +kernel
theorem dX5_choose_5 : decode cX5_choose 5 = .ok (.aload_n 0, 1) := by decide +kernel
theorem dX5_choose_6 : decode cX5_choose 6 = .ok (.iconst 0, 1) := by decide +kernel
theorem dX5_choose_7 : decode cX5_choose 7 = .ok (.putfield 122, 3) := by decide +kernel
theorem dX5_choose_10 : decode cX5_choose 10 = .ok (.iconst 0, 1) := by decide +kernel
theorem dX5_choose_11 : decode cX5_choose 11 = .ok (.istore_n 2, 1) := by decide +kernel
theorem dX5_choose_12 : decode cX5_choose 12 = .ok (.iload_n 2, 1) := by decide +kernel
theorem dX5_choose_13 : decode cX5_choose 13 = .ok (.iconst 1, 1) := by decide +kernel
theorem dX5_choose_14 : decode cX5_choose 14 = .ok (.aload_n 0, 1) := by decide +kernel
theorem dX5_choose_15 : decode cX5_choose 15 = .ok (.getfield 67, 3) := by decide +kernel
theorem dX5_choose_18 : decode cX5_choose 18 = .ok (.ishl, 1) := by decide +kernel
theorem dX5_choose_19 : decode cX5_choose 19 = .ok (.if_icmp .ge 54, 3) := by decide +kernel
theorem dX5_choose_22 : decode cX5_choose 22 = .ok (.aload_n 0, 1) := by decide +kernel
theorem dX5_choose_23 : decode cX5_choose 23 = .ok (.iload_n 1, 1) := by decide +kernel
theorem dX5_choose_24 : decode cX5_choose 24 = .ok (.iload_n 2, 1) := by decide +kernel
theorem dX5_choose_25 : decode cX5_choose 25 = .ok (.invokevirtual 125, 3) := by decide +kernel
theorem dX5_choose_28 : decode cX5_choose 28 = .ok (.ifCond .eq 39, 3) := by decide +kernel
theorem dX5_choose_31 : decode cX5_choose 31 = .ok (.aload_n 0, 1) := by decide +kernel
theorem dX5_choose_32 : decode cX5_choose 32 = .ok (.getfield 31, 3) := by decide +kernel
theorem dX5_choose_35 : decode cX5_choose 35 = .ok (.aload_n 0, 1) := by decide +kernel
theorem dX5_choose_36 : decode cX5_choose 36 = .ok (.iload_n 2, 1) := by decide +kernel
theorem dX5_choose_37 : decode cX5_choose 37 = .ok (.invokevirtual 128, 3) := by decide +kernel
theorem dX5_choose_40 : decode cX5_choose 40 = .ok (.iaload, 1) := by decide +kernel
theorem dX5_choose_41 : decode cX5_choose 41 = .ok (.aload_n 0, 1) := by decide +kernel
theorem dX5_choose_42 : decode cX5_choose 42 = .ok (.getfield 119, 3) := by decide +kernel
theorem dX5_choose_45 : decode cX5_choose 45 = .ok (.if_icmp .le 22, 3) := by decide +kernel
theorem dX5_choose_48 : decode cX5_choose 48 = .ok (.aload_n 0, 1) := by decide +kernel
theorem dX5_choose_49 : decode cX5_choose 49 = .ok (.aload_n 0, 1) := by decide +kernel
theorem dX5_choose_50 : decode cX5_choose 50 = .ok (.getfield 31, 3) := by decide +kernel
theorem dX5_choose_53 : decode cX5_choose 53 = .ok (.aload_n 0, 1) := by decide +kernel
theorem dX5_choose_54 : decode cX5_choose 54 = .ok (.iload_n 2, 1) := by decide +kernel
theorem dX5_choose_55 : decode cX5_choose 55 = .ok (.invokevirtual 128, 3) := by decide +kernel
theorem dX5_choose_58 : decode cX5_choose 58 = .ok (.iaload, 1) := by decide +kernel
theorem dX5_choose_59 : decode cX5_choose 59 = .ok (.putfield 119, 3) := by decide +kernel
theorem dX5_choose_62 : decode cX5_choose 62 = .ok (.aload_n 0, 1) := by decide +kernel
theorem dX5_choose_63 : decode cX5_choose 63 = .ok (.iload_n 2, 1) := by decide +kernel
theorem dX5_choose_64 : decode cX5_choose 64 = .ok (.putfield 122, 3) := by decide +kernel
theorem dX5_choose_67 : decode cX5_choose 67 = .ok (.iinc 2 1, 3) := by decide +kernel
theorem dX5_choose_70 : decode cX5_choose 70 = .ok (.goto (-58), 3) := by decide +kernel
theorem dX5_choose_73 : decode cX5_choose 73 = .ok (.return_, 1) := by decide +kernel
theorem dX5_maySay_0 : decode cX5_maySay 0 = .ok (.iconst 0, 1) := by decide +kernel
theorem dX5_maySay_1 : decode cX5_maySay 1 = .ok (.istore_n 3, 1) := by decide +kernel
theorem dX5_maySay_2 : decode cX5_maySay 2 = .ok (.iload_n 3, 1) := by decide +kernel
theorem dX5_maySay_3 : decode cX5_maySay 3 = .ok (.aload_n 0, 1) := by decide +kernel
theorem dX5_maySay_4 : decode cX5_maySay 4 = .ok (.getfield 67, 3) := by decide +kernel
theorem dX5_maySay_7 : decode cX5_maySay 7 = .ok (.if_icmp .ge 57, 3) := by decide +kernel
theorem dX5_maySay_10 : decode cX5_maySay 10 = .ok (.iload_n 2, 1) := by decide +kernel
theorem dX5_maySay_11 : decode cX5_maySay 11 = .ok (.iload_n 3, 1) := by decide +kernel
theorem dX5_maySay_12 : decode cX5_maySay 12 = .ok (.ishr, 1) := by decide +kernel
theorem dX5_maySay_13 : decode cX5_maySay 13 = .ok (.iconst 1, 1) := by decide +kernel
theorem dX5_maySay_14 : decode cX5_maySay 14 = .ok (.iand, 1) := by decide +kernel
theorem dX5_maySay_15 : decode cX5_maySay 15 = .ok (.ifCond .eq 12, 3) := by decide +kernel
theorem dX5_maySay_18 : decode cX5_maySay 18 = .ok (.aload_n 0, 1) := by decide +kernel
theorem dX5_maySay_19 : decode cX5_maySay 19 = .ok (.getfield 25, 3) := by decide +kernel
theorem dX5_maySay_22 : decode cX5_maySay 22 = .ok (.iload_n 3, 1) := by decide +kernel
theorem dX5_maySay_23 : decode cX5_maySay 23 = .ok (.iaload, 1) := by decide +kernel
theorem dX5_maySay_24 : decode cX5_maySay 24 = .ok (.goto 9, 3) := by decide +kernel
theorem dX5_maySay_27 : decode cX5_maySay 27 = .ok (.aload_n 0, 1) := by decide +kernel
theorem dX5_maySay_28 : decode cX5_maySay 28 = .ok (.getfield 28, 3) := by decide +kernel
theorem dX5_maySay_31 : decode cX5_maySay 31 = .ok (.iload_n 3, 1) := by decide +kernel
theorem dX5_maySay_32 : decode cX5_maySay 32 = .ok (.iaload, 1) := by decide +kernel
theorem dX5_maySay_33 : decode cX5_maySay 33 = .ok (.istore 4, 2) := by decide +kernel
theorem dX5_maySay_35 : decode cX5_maySay 35 = .ok (.iload 4, 2) := by decide +kernel
theorem dX5_maySay_37 : decode cX5_maySay 37 = .ok (.iload_n 1, 1) := by decide +kernel
theorem dX5_maySay_38 : decode cX5_maySay 38 = .ok (.aload_n 0, 1) := by decide +kernel
theorem dX5_maySay_39 : decode cX5_maySay 39 = .ok (.getfield 18, 3) := by decide +kernel
theorem dX5_maySay_42 : decode cX5_maySay 42 = .ok (.iload_n 3, 1) := by decide +kernel
theorem dX5_maySay_43 : decode cX5_maySay 43 = .ok (.iaload, 1) := by decide +kernel
theorem dX5_maySay_44 : decode cX5_maySay 44 = .ok (.aload_n 0, 1) := by decide +kernel
theorem dX5_maySay_45 : decode cX5_maySay 45 = .ok (.getfield 22, 3) := by decide +kernel
theorem dX5_maySay_48 : decode cX5_maySay 48 = .ok (.iload_n 3, 1) := by decide +kernel
theorem dX5_maySay_49 : decode cX5_maySay 49 = .ok (.iaload, 1) := by decide +kernel
theorem dX5_maySay_50 : decode cX5_maySay 50 = .ok (.invokestatic 115, 3) := by decide +kernel
theorem dX5_maySay_53 : decode cX5_maySay 53 = .ok (.ifCond .ne 5, 3) := by decide +kernel
theorem dX5_maySay_56 : decode cX5_maySay 56 = .ok (.iconst 0, 1) := by decide +kernel
theorem dX5_maySay_57 : decode cX5_maySay 57 = .ok (.ireturn, 1) := by decide +kernel
theorem dX5_maySay_58 : decode cX5_maySay 58 = .ok (.iinc 3 1, 3) := by decide +kernel
theorem dX5_maySay_61 : decode cX5_maySay 61 = .ok (.goto (-59), 3) := by decide +kernel
theorem dX5_maySay_64 : decode cX5_maySay 64 = .ok (.iconst 1, 1) := by decide +kernel
theorem dX5_maySay_65 : decode cX5_maySay 65 = .ok (.ireturn, 1) := by decide +kernel
theorem dX5_placeOf_0 : decode cX5_placeOf 0 = .ok (.iconst 0, 1) := by decide +kernel
theorem dX5_placeOf_1 : decode cX5_placeOf 1 = .ok (.istore_n 2, 1) := by decide +kernel
theorem dX5_placeOf_2 : decode cX5_placeOf 2 = .ok (.aload_n 0, 1) := by decide +kernel
theorem dX5_placeOf_3 : decode cX5_placeOf 3 = .ok (.getfield 67, 3) := by decide +kernel
theorem dX5_placeOf_6 : decode cX5_placeOf 6 = .ok (.iconst 1, 1) := by decide +kernel
theorem dX5_placeOf_7 : decode cX5_placeOf 7 = .ok (.isub, 1) := by decide +kernel
theorem dX5_placeOf_8 : decode cX5_placeOf 8 = .ok (.istore_n 3, 1) := by decide +kernel
theorem dX5_placeOf_9 : decode cX5_placeOf 9 = .ok (.iload_n 3, 1) := by decide +kernel
theorem dX5_placeOf_10 : decode cX5_placeOf 10 = .ok (.ifCond .lt 19, 3) := by decide +kernel
theorem dX5_placeOf_13 : decode cX5_placeOf 13 = .ok (.iload_n 2, 1) := by decide +kernel
theorem dX5_placeOf_14 : decode cX5_placeOf 14 = .ok (.iconst 3, 1) := by decide +kernel
theorem dX5_placeOf_15 : decode cX5_placeOf 15 = .ok (.imul, 1) := by decide +kernel
theorem dX5_placeOf_16 : decode cX5_placeOf 16 = .ok (.iload_n 1, 1) := by decide +kernel
theorem dX5_placeOf_17 : decode cX5_placeOf 17 = .ok (.iload_n 3, 1) := by decide +kernel
theorem dX5_placeOf_18 : decode cX5_placeOf 18 = .ok (.ishr, 1) := by decide +kernel
theorem dX5_placeOf_19 : decode cX5_placeOf 19 = .ok (.iconst 1, 1) := by decide +kernel
theorem dX5_placeOf_20 : decode cX5_placeOf 20 = .ok (.iand, 1) := by decide +kernel
theorem dX5_placeOf_21 : decode cX5_placeOf 21 = .ok (.iadd, 1) := by decide +kernel
theorem dX5_placeOf_22 : decode cX5_placeOf 22 = .ok (.istore_n 2, 1) := by decide +kernel
theorem dX5_placeOf_23 : decode cX5_placeOf 23 = .ok (.iinc 3 (-1), 3) := by decide +kernel
theorem dX5_placeOf_26 : decode cX5_placeOf 26 = .ok (.goto (-17), 3) := by decide +kernel
theorem dX5_placeOf_29 : decode cX5_placeOf 29 = .ok (.iload_n 2, 1) := by decide +kernel
theorem dX5_placeOf_30 : decode cX5_placeOf 30 = .ok (.ireturn, 1) := by decide +kernel
theorem dX6_init_0 : decode cX6_init 0 = .ok (.aload_n 0, 1) := by decide +kernel
theorem dX6_init_1 : decode cX6_init 1 = .ok (.invokespecial 3, 3) := by decide +kernel
theorem dX6_init_4 : decode cX6_init 4 = .ok (.aload_n 0, 1) := by decide +kernel
theorem dX6_init_5 : decode cX6_init 5 = .ok (.bipush 24, 2) := by decide +kernel
theorem dX6_init_7 : decode cX6_init 7 = .ok (.newarray .int, 2) := by decide +kernel
theorem dX6_init_9 : decode cX6_init 9 = .ok (.putfield 9, 3) := by decide +kernel
theorem dX6_init_12 : decode cX6_init 12 = .ok (.return_, 1) := by decide +kernel
theorem dX6_isWidth_0 : decode cX6_isWidth 0 = .ok (.iload_n 0, 1) := by decide +kernel
theorem dX6_isWidth_1 : decode cX6_isWidth 1 = .ok (.ifCond .eq 21, 3) := by decide +kernel
theorem dX6_isWidth_4 : decode cX6_isWidth 4 = .ok (.iload_n 0, 1) := by decide +kernel
theorem dX6_isWidth_5 : decode cX6_isWidth 5 = .ok (.bipush 8, 2) := by decide +kernel
theorem dX6_isWidth_7 : decode cX6_isWidth 7 = .ok (.if_icmp .eq 15, 3) := by decide +kernel
theorem dX6_isWidth_10 : decode cX6_isWidth 10 = .ok (.iload_n 0, 1) := by decide +kernel
theorem dX6_isWidth_11 : decode cX6_isWidth 11 = .ok (.bipush 16, 2) := by decide +kernel
theorem dX6_isWidth_13 : decode cX6_isWidth 13 = .ok (.if_icmp .eq 9, 3) := by decide +kernel
theorem dX6_isWidth_16 : decode cX6_isWidth 16 = .ok (.iload_n 0, 1) := by decide +kernel
theorem dX6_isWidth_17 : decode cX6_isWidth 17 = .ok (.bipush 32, 2) := by decide +kernel
theorem dX6_isWidth_19 : decode cX6_isWidth 19 = .ok (.if_icmp .ne 7, 3) := by decide +kernel
theorem dX6_isWidth_22 : decode cX6_isWidth 22 = .ok (.iconst 1, 1) := by decide +kernel
theorem dX6_isWidth_23 : decode cX6_isWidth 23 = .ok (.goto 4, 3) := by decide +kernel
theorem dX6_isWidth_26 : decode cX6_isWidth 26 = .ok (.iconst 0, 1) := by decide +kernel
theorem dX6_isWidth_27 : decode cX6_isWidth 27 = .ok (.ireturn, 1) := by decide +kernel
theorem dX6_isMissing_0 : decode cX6_isMissing 0 = .ok (.aload_n 0, 1) := by decide +kernel
theorem dX6_isMissing_1 : decode cX6_isMissing 1 = .ok (.getfield 15, 3) := by decide +kernel
theorem dX6_isMissing_4 : decode cX6_isMissing 4 = .ok (.ifCond .ne 7, 3) := by decide +kernel
theorem dX6_isMissing_7 : decode cX6_isMissing 7 = .ok (.iconst 1, 1) := by decide +kernel
theorem dX6_isMissing_8 : decode cX6_isMissing 8 = .ok (.goto 4, 3) := by decide +kernel
theorem dX6_isMissing_11 : decode cX6_isMissing 11 = .ok (.iconst 0, 1) := by decide +kernel
theorem dX6_isMissing_12 : decode cX6_isMissing 12 = .ok (.ireturn, 1) := by decide +kernel
theorem dX6_lay_0 : decode cX6_lay 0 = .ok (.aload_n 0, 1) := by decide +kernel
theorem dX6_lay_1 : decode cX6_lay 1 = .ok (.iload_n 1, 1) := by decide +kernel
theorem dX6_lay_2 : decode cX6_lay 2 = .ok (.putfield 15, 3) := by decide +kernel
theorem dX6_lay_5 : decode cX6_lay 5 = .ok (.aload_n 0, 1) := by decide +kernel
theorem dX6_lay_6 : decode cX6_lay 6 = .ok (.iload_n 2, 1) := by decide +kernel
theorem dX6_lay_7 : decode cX6_lay 7 = .ok (.putfield 19, 3) := by decide +kernel
theorem dX6_lay_10 : decode cX6_lay 10 = .ok (.iconst 0, 1) := by decide +kernel
theorem dX6_lay_11 : decode cX6_lay 11 = .ok (.istore_n 3, 1) := by decide +kernel
theorem dX6_lay_12 : decode cX6_lay 12 = .ok (.iload_n 3, 1) := by decide +kernel
theorem dX6_lay_13 : decode cX6_lay 13 = .ok (.aload_n 0, 1) := by decide +kernel
theorem dX6_lay_14 : decode cX6_lay 14 = .ok (.getfield 9, 3) := by decide +kernel
theorem dX6_lay_17 : decode cX6_lay 17 = .ok (.arraylength, 1) := by decide +kernel
theorem dX6_lay_18 : decode cX6_lay 18 = .ok (.if_icmp .ge 16, 3) := by decide +kernel
theorem dX6_lay_21 : decode cX6_lay 21 = .ok (.aload_n 0, 1) := by decide +kernel
theorem dX6_lay_22 : decode cX6_lay 22 = .ok (.getfield 9, 3) := by decide +kernel
theorem dX6_lay_25 : decode cX6_lay 25 = .ok (.iload_n 3, 1) := by decide +kernel
theorem dX6_lay_26 : decode cX6_lay 26 = .ok (.iconst 0, 1) := by decide +kernel
theorem dX6_lay_27 : decode cX6_lay 27 = .ok (.iastore, 1) := by decide +kernel
theorem dX6_lay_28 : decode cX6_lay 28 = .ok (.iinc 3 1, 3) := by decide +kernel
theorem dX6_lay_31 : decode cX6_lay 31 = .ok (.goto (-19), 3) := by decide +kernel
theorem dX6_lay_34 : decode cX6_lay 34 = .ok (.return_, 1) := by decide +kernel
theorem dX6_write_0 : decode cX6_write 0 = .ok (.aload_n 0, 1) := by decide +kernel
theorem dX6_write_1 : decode cX6_write 1 = .ok (.getfield 9, 3) := by decide +kernel
theorem dX6_write_4 : decode cX6_write 4 = .ok (.iload_n 1, 1) := by decide +kernel
theorem dX6_write_5 : decode cX6_write 5 = .ok (.aload_n 0, 1) := by decide +kernel
theorem dX6_write_6 : decode cX6_write 6 = .ok (.getfield 15, 3) := by decide +kernel
theorem dX6_write_9 : decode cX6_write 9 = .ok (.bipush 8, 2) := by decide +kernel
theorem dX6_write_11 : decode cX6_write 11 = .ok (.if_icmp .ne 8, 3) := by decide +kernel
theorem dX6_write_14 : decode cX6_write 14 = .ok (.iload_n 2, 1) := by decide +kernel
theorem dX6_write_15 : decode cX6_write 15 = .ok (.i2b, 1) := by decide +kernel
theorem dX6_write_16 : decode cX6_write 16 = .ok (.goto 18, 3) := by decide +kernel
theorem dX6_write_19 : decode cX6_write 19 = .ok (.aload_n 0, 1) := by decide +kernel
theorem dX6_write_20 : decode cX6_write 20 = .ok (.getfield 15, 3) := by decide +kernel
theorem dX6_write_23 : decode cX6_write 23 = .ok (.bipush 16, 2) := by decide +kernel
theorem dX6_write_25 : decode cX6_write 25 = .ok (.if_icmp .ne 8, 3) := by decide +kernel
theorem dX6_write_28 : decode cX6_write 28 = .ok (.iload_n 2, 1) := by decide +kernel
theorem dX6_write_29 : decode cX6_write 29 = .ok (.i2s, 1) := by decide +kernel
theorem dX6_write_30 : decode cX6_write 30 = .ok (.goto 4, 3) := by decide +kernel
theorem dX6_write_33 : decode cX6_write 33 = .ok (.iload_n 2, 1) := by decide +kernel
theorem dX6_write_34 : decode cX6_write 34 = .ok (.iastore, 1) := by decide +kernel
theorem dX6_write_35 : decode cX6_write 35 = .ok (.return_, 1) := by decide +kernel
theorem dX6_hasRun_0 : decode cX6_hasRun 0 = .ok (.iload_n 1, 1) := by decide +kernel
theorem dX6_hasRun_1 : decode cX6_hasRun 1 = .ok (.ifCond .lt 29, 3) := by decide +kernel
theorem dX6_hasRun_4 : decode cX6_hasRun 4 = .ok (.iload_n 2, 1) := by decide +kernel
theorem dX6_hasRun_5 : decode cX6_hasRun 5 = .ok (.ifCond .lt 25, 3) := by decide +kernel
theorem dX6_hasRun_8 : decode cX6_hasRun 8 = .ok (.iload_n 2, 1) := by decide +kernel
theorem dX6_hasRun_9 : decode cX6_hasRun 9 = .ok (.aload_n 0, 1) := by decide +kernel
theorem dX6_hasRun_10 : decode cX6_hasRun 10 = .ok (.getfield 19, 3) := by decide +kernel
theorem dX6_hasRun_13 : decode cX6_hasRun 13 = .ok (.if_icmp .gt 17, 3) := by decide +kernel
theorem dX6_hasRun_16 : decode cX6_hasRun 16 = .ok (.iload_n 1, 1) := by decide +kernel
theorem dX6_hasRun_17 : decode cX6_hasRun 17 = .ok (.aload_n 0, 1) := by decide +kernel
theorem dX6_hasRun_18 : decode cX6_hasRun 18 = .ok (.getfield 19, 3) := by decide +kernel
theorem dX6_hasRun_21 : decode cX6_hasRun 21 = .ok (.iload_n 2, 1) := by decide +kernel
theorem dX6_hasRun_22 : decode cX6_hasRun 22 = .ok (.isub, 1) := by decide +kernel
theorem dX6_hasRun_23 : decode cX6_hasRun 23 = .ok (.if_icmp .gt 7, 3) := by decide +kernel
theorem dX6_hasRun_26 : decode cX6_hasRun 26 = .ok (.iconst 1, 1) := by decide +kernel
theorem dX6_hasRun_27 : decode cX6_hasRun 27 = .ok (.goto 4, 3) := by decide +kernel
theorem dX6_hasRun_30 : decode cX6_hasRun 30 = .ok (.iconst 0, 1) := by decide +kernel
theorem dX6_hasRun_31 : decode cX6_hasRun 31 = .ok (.ireturn, 1) := by decide +kernel
theorem dX7_init_0 : decode cX7_init 0 = .ok (.aload_n 0, 1) := by decide +kernel
theorem dX7_init_1 : decode cX7_init 1 = .ok (.invokespecial 3, 3) := by decide +kernel
theorem dX7_init_4 : decode cX7_init 4 = .ok (.aload_n 0, 1) := by decide +kernel
theorem dX7_init_5 : decode cX7_init 5 = .ok (.sipush 4096, 3) := by decide +kernel
theorem dX7_init_8 : decode cX7_init 8 = .ok (.newarray .int, 2) := by decide +kernel
theorem dX7_init_10 : decode cX7_init 10 = .ok (.putfield 9, 3) := by decide +kernel
theorem dX7_init_13 : decode cX7_init 13 = .ok (.aload_n 0, 1) := by decide +kernel
theorem dX7_init_14 : decode cX7_init 14 = .ok (.bipush 12, 2) := by decide +kernel
theorem dX7_init_16 : decode cX7_init 16 = .ok (.newarray .int, 2) := by decide +kernel
theorem dX7_init_18 : decode cX7_init 18 = .ok (.putfield 15, 3) := by decide +kernel
theorem dX7_init_21 : decode cX7_init 21 = .ok (.aload_n 0, 1) := by decide +kernel
theorem dX7_init_22 : decode cX7_init 22 = .ok (.sipush 144, 3) := by decide +kernel
theorem dX7_init_25 : decode cX7_init 25 = .ok (.newarray .int, 2) := by decide +kernel
theorem dX7_init_27 : decode cX7_init 27 = .ok (.putfield 18, 3) := by decide +kernel
theorem dX7_init_30 : decode cX7_init 30 = .ok (.return_, 1) := by decide +kernel
theorem dX7_clear_0 : decode cX7_clear 0 = .ok (.aload_n 0, 1) := by decide +kernel
theorem dX7_clear_1 : decode cX7_clear 1 = .ok (.iconst 0, 1) := by decide +kernel
theorem dX7_clear_2 : decode cX7_clear 2 = .ok (.putfield 21, 3) := by decide +kernel
theorem dX7_clear_5 : decode cX7_clear 5 = .ok (.iconst 0, 1) := by decide +kernel
theorem dX7_clear_6 : decode cX7_clear 6 = .ok (.istore_n 1, 1) := by decide +kernel
theorem dX7_clear_7 : decode cX7_clear 7 = .ok (.iload_n 1, 1) := by decide +kernel
theorem dX7_clear_8 : decode cX7_clear 8 = .ok (.bipush 12, 2) := by decide +kernel
theorem dX7_clear_10 : decode cX7_clear 10 = .ok (.if_icmp .ge 16, 3) := by decide +kernel
theorem dX7_clear_13 : decode cX7_clear 13 = .ok (.aload_n 0, 1) := by decide +kernel
theorem dX7_clear_14 : decode cX7_clear 14 = .ok (.getfield 15, 3) := by decide +kernel
theorem dX7_clear_17 : decode cX7_clear 17 = .ok (.iload_n 1, 1) := by decide +kernel
theorem dX7_clear_18 : decode cX7_clear 18 = .ok (.iconst 0, 1) := by decide +kernel
theorem dX7_clear_19 : decode cX7_clear 19 = .ok (.iastore, 1) := by decide +kernel
theorem dX7_clear_20 : decode cX7_clear 20 = .ok (.iinc 1 1, 3) := by decide +kernel
theorem dX7_clear_23 : decode cX7_clear 23 = .ok (.goto (-16), 3) := by decide +kernel
theorem dX7_clear_26 : decode cX7_clear 26 = .ok (.iconst 0, 1) := by decide +kernel
theorem dX7_clear_27 : decode cX7_clear 27 = .ok (.istore_n 1, 1) := by decide +kernel
theorem dX7_clear_28 : decode cX7_clear 28 = .ok (.iload_n 1, 1) := by decide +kernel
theorem dX7_clear_29 : decode cX7_clear 29 = .ok (.aload_n 0, 1) := by decide +kernel
theorem dX7_clear_30 : decode cX7_clear 30 = .ok (.getfield 18, 3) := by decide +kernel
theorem dX7_clear_33 : decode cX7_clear 33 = .ok (.arraylength, 1) := by decide +kernel
theorem dX7_clear_34 : decode cX7_clear 34 = .ok (.if_icmp .ge 16, 3) := by decide +kernel
theorem dX7_clear_37 : decode cX7_clear 37 = .ok (.aload_n 0, 1) := by decide +kernel
theorem dX7_clear_38 : decode cX7_clear 38 = .ok (.getfield 18, 3) := by decide +kernel
theorem dX7_clear_41 : decode cX7_clear 41 = .ok (.iload_n 1, 1) := by decide +kernel
theorem dX7_clear_42 : decode cX7_clear 42 = .ok (.iconst 0, 1) := by decide +kernel
theorem dX7_clear_43 : decode cX7_clear 43 = .ok (.iastore, 1) := by decide +kernel
theorem dX7_clear_44 : decode cX7_clear 44 = .ok (.iinc 1 1, 3) := by decide +kernel
theorem dX7_clear_47 : decode cX7_clear 47 = .ok (.goto (-19), 3) := by decide +kernel
theorem dX7_clear_50 : decode cX7_clear 50 = .ok (.return_, 1) := by decide +kernel
theorem dX7_add_0 : decode cX7_add 0 = .ok (.iconst 1, 1) := by decide +kernel
theorem dX7_add_1 : decode cX7_add 1 = .ok (.iload_n 1, 1) := by decide +kernel
theorem dX7_add_2 : decode cX7_add 2 = .ok (.iconst 1, 1) := by decide +kernel
theorem dX7_add_3 : decode cX7_add 3 = .ok (.iand, 1) := by decide +kernel
theorem dX7_add_4 : decode cX7_add 4 = .ok (.isub, 1) := by decide +kernel
theorem dX7_add_5 : decode cX7_add 5 = .ok (.istore 4, 2) := by decide +kernel
theorem dX7_add_7 : decode cX7_add 7 = .ok (.iconst 1, 1) := by decide +kernel
theorem dX7_add_8 : decode cX7_add 8 = .ok (.iload_n 1, 1) := by decide +kernel
theorem dX7_add_9 : decode cX7_add 9 = .ok (.iconst 1, 1) := by decide +kernel
theorem dX7_add_10 : decode cX7_add 10 = .ok (.ishr, 1) := by decide +kernel
theorem dX7_add_11 : decode cX7_add 11 = .ok (.iconst 1, 1) := by decide +kernel
theorem dX7_add_12 : decode cX7_add 12 = .ok (.iand, 1) := by decide +kernel
theorem dX7_add_13 : decode cX7_add 13 = .ok (.isub, 1) := by decide +kernel
theorem dX7_add_14 : decode cX7_add 14 = .ok (.istore 5, 2) := by decide +kernel
theorem dX7_add_16 : decode cX7_add 16 = .ok (.iconst 1, 1) := by decide +kernel
theorem dX7_add_17 : decode cX7_add 17 = .ok (.iload_n 1, 1) := by decide +kernel
theorem dX7_add_18 : decode cX7_add 18 = .ok (.iconst 2, 1) := by decide +kernel
theorem dX7_add_19 : decode cX7_add 19 = .ok (.ishr, 1) := by decide +kernel
theorem dX7_add_20 : decode cX7_add 20 = .ok (.iconst 1, 1) := by decide +kernel
theorem dX7_add_21 : decode cX7_add 21 = .ok (.iand, 1) := by decide +kernel
theorem dX7_add_22 : decode cX7_add 22 = .ok (.isub, 1) := by decide +kernel
theorem dX7_add_23 : decode cX7_add 23 = .ok (.istore 6, 2) := by decide +kernel
theorem dX7_add_25 : decode cX7_add 25 = .ok (.iconst 1, 1) := by decide +kernel
theorem dX7_add_26 : decode cX7_add 26 = .ok (.iload_n 1, 1) := by decide +kernel
theorem dX7_add_27 : decode cX7_add 27 = .ok (.iconst 3, 1) := by decide +kernel
theorem dX7_add_28 : decode cX7_add 28 = .ok (.ishr, 1) := by decide +kernel
theorem dX7_add_29 : decode cX7_add 29 = .ok (.iconst 1, 1) := by decide +kernel
theorem dX7_add_30 : decode cX7_add 30 = .ok (.iand, 1) := by decide +kernel
theorem dX7_add_31 : decode cX7_add 31 = .ok (.isub, 1) := by decide +kernel
theorem dX7_add_32 : decode cX7_add 32 = .ok (.istore 7, 2) := by decide +kernel
theorem dX7_add_34 : decode cX7_add 34 = .ok (.aload_n 0, 1) := by decide +kernel
theorem dX7_add_35 : decode cX7_add 35 = .ok (.dup, 1) := by decide +kernel
theorem dX7_add_36 : decode cX7_add 36 = .ok (.getfield 21, 3) := by decide +kernel
theorem dX7_add_39 : decode cX7_add 39 = .ok (.iload 4, 2) := by decide +kernel
theorem dX7_add_41 : decode cX7_add 41 = .ok (.iadd, 1) := by decide +kernel
theorem dX7_add_42 : decode cX7_add 42 = .ok (.putfield 21, 3) := by decide +kernel
theorem dX7_add_45 : decode cX7_add 45 = .ok (.aload_n 0, 1) := by decide +kernel
theorem dX7_add_46 : decode cX7_add 46 = .ok (.getfield 15, 3) := by decide +kernel
theorem dX7_add_49 : decode cX7_add 49 = .ok (.iload_n 2, 1) := by decide +kernel
theorem dX7_add_50 : decode cX7_add 50 = .ok (.dup2, 1) := by decide +kernel
theorem dX7_add_51 : decode cX7_add 51 = .ok (.iaload, 1) := by decide +kernel
theorem dX7_add_52 : decode cX7_add 52 = .ok (.iload 6, 2) := by decide +kernel
theorem dX7_add_54 : decode cX7_add 54 = .ok (.iload 4, 2) := by decide +kernel
theorem dX7_add_56 : decode cX7_add 56 = .ok (.isub, 1) := by decide +kernel
theorem dX7_add_57 : decode cX7_add 57 = .ok (.iadd, 1) := by decide +kernel
theorem dX7_add_58 : decode cX7_add 58 = .ok (.iastore, 1) := by decide +kernel
theorem dX7_add_59 : decode cX7_add 59 = .ok (.aload_n 0, 1) := by decide +kernel
theorem dX7_add_60 : decode cX7_add 60 = .ok (.getfield 15, 3) := by decide +kernel
theorem dX7_add_63 : decode cX7_add 63 = .ok (.iload_n 3, 1) := by decide +kernel
theorem dX7_add_64 : decode cX7_add 64 = .ok (.dup2, 1) := by decide +kernel
theorem dX7_add_65 : decode cX7_add 65 = .ok (.iaload, 1) := by decide +kernel
theorem dX7_add_66 : decode cX7_add 66 = .ok (.iload 5, 2) := by decide +kernel
theorem dX7_add_68 : decode cX7_add 68 = .ok (.iload 4, 2) := by decide +kernel
theorem dX7_add_70 : decode cX7_add 70 = .ok (.isub, 1) := by decide +kernel
theorem dX7_add_71 : decode cX7_add 71 = .ok (.iadd, 1) := by decide +kernel
theorem dX7_add_72 : decode cX7_add 72 = .ok (.iastore, 1) := by decide +kernel
theorem dX7_add_73 : decode cX7_add 73 = .ok (.iload_n 2, 1) := by decide +kernel
theorem dX7_add_74 : decode cX7_add 74 = .ok (.iload_n 3, 1) := by decide +kernel
theorem dX7_add_75 : decode cX7_add 75 = .ok (.invokestatic 25, 3) := by decide +kernel
theorem dX7_add_78 : decode cX7_add 78 = .ok (.istore 8, 2) := by decide +kernel
theorem dX7_add_80 : decode cX7_add 80 = .ok (.iload_n 2, 1) := by decide +kernel
theorem dX7_add_81 : decode cX7_add 81 = .ok (.iload_n 3, 1) := by decide +kernel
theorem dX7_add_82 : decode cX7_add 82 = .ok (.invokestatic 31, 3) := by decide +kernel
theorem dX7_add_85 : decode cX7_add 85 = .ok (.istore 9, 2) := by decide +kernel
theorem dX7_add_87 : decode cX7_add 87 = .ok (.aload_n 0, 1) := by decide +kernel
theorem dX7_add_88 : decode cX7_add 88 = .ok (.getfield 18, 3) := by decide +kernel
theorem dX7_add_91 : decode cX7_add 91 = .ok (.iload 8, 2) := by decide +kernel
theorem dX7_add_93 : decode cX7_add 93 = .ok (.bipush 12, 2) := by decide +kernel
theorem dX7_add_95 : decode cX7_add 95 = .ok (.imul, 1) := by decide +kernel
theorem dX7_add_96 : decode cX7_add 96 = .ok (.iload 9, 2) := by decide +kernel
theorem dX7_add_98 : decode cX7_add 98 = .ok (.iadd, 1) := by decide +kernel
theorem dX7_add_99 : decode cX7_add 99 = .ok (.dup2, 1) := by decide +kernel
theorem dX7_add_100 : decode cX7_add 100 = .ok (.iaload, 1) := by decide +kernel
theorem dX7_add_101 : decode cX7_add 101 = .ok (.iload 7, 2) := by decide +kernel
theorem dX7_add_103 : decode cX7_add 103 = .ok (.iload 6, 2) := by decide +kernel
theorem dX7_add_105 : decode cX7_add 105 = .ok (.isub, 1) := by decide +kernel
theorem dX7_add_106 : decode cX7_add 106 = .ok (.iload 5, 2) := by decide +kernel
theorem dX7_add_108 : decode cX7_add 108 = .ok (.isub, 1) := by decide +kernel
theorem dX7_add_109 : decode cX7_add 109 = .ok (.iload 4, 2) := by decide +kernel
theorem dX7_add_111 : decode cX7_add 111 = .ok (.iadd, 1) := by decide +kernel
theorem dX7_add_112 : decode cX7_add 112 = .ok (.iadd, 1) := by decide +kernel
theorem dX7_add_113 : decode cX7_add 113 = .ok (.iastore, 1) := by decide +kernel
theorem dX7_add_114 : decode cX7_add 114 = .ok (.return_, 1) := by decide +kernel
theorem dX7_fill_0 : decode cX7_fill 0 = .ok (.aload_n 0, 1) := by decide +kernel
theorem dX7_fill_1 : decode cX7_fill 1 = .ok (.getfield 9, 3) := by decide +kernel
theorem dX7_fill_4 : decode cX7_fill 4 = .ok (.iconst 0, 1) := by decide +kernel
theorem dX7_fill_5 : decode cX7_fill 5 = .ok (.aload_n 0, 1) := by decide +kernel
theorem dX7_fill_6 : decode cX7_fill 6 = .ok (.getfield 21, 3) := by decide +kernel
theorem dX7_fill_9 : decode cX7_fill 9 = .ok (.iastore, 1) := by decide +kernel
theorem dX7_fill_10 : decode cX7_fill 10 = .ok (.iconst 0, 1) := by decide +kernel
theorem dX7_fill_11 : decode cX7_fill 11 = .ok (.istore_n 2, 1) := by decide +kernel
theorem dX7_fill_12 : decode cX7_fill 12 = .ok (.iload_n 2, 1) := by decide +kernel
theorem dX7_fill_13 : decode cX7_fill 13 = .ok (.iload_n 1, 1) := by decide +kernel
theorem dX7_fill_14 : decode cX7_fill 14 = .ok (.if_icmp .ge 124, 3) := by decide +kernel
theorem dX7_fill_17 : decode cX7_fill 17 = .ok (.iconst 1, 1) := by decide +kernel
theorem dX7_fill_18 : decode cX7_fill 18 = .ok (.iload_n 2, 1) := by decide +kernel
theorem dX7_fill_19 : decode cX7_fill 19 = .ok (.ishl, 1) := by decide +kernel
theorem dX7_fill_20 : decode cX7_fill 20 = .ok (.istore_n 3, 1) := by decide +kernel
theorem dX7_fill_21 : decode cX7_fill 21 = .ok (.aload_n 0, 1) := by decide +kernel
theorem dX7_fill_22 : decode cX7_fill 22 = .ok (.getfield 9, 3) := by decide +kernel
theorem dX7_fill_25 : decode cX7_fill 25 = .ok (.iload_n 3, 1) := by decide +kernel
theorem dX7_fill_26 : decode cX7_fill 26 = .ok (.aload_n 0, 1) := by decide +kernel
theorem dX7_fill_27 : decode cX7_fill 27 = .ok (.getfield 21, 3) := by decide +kernel
theorem dX7_fill_30 : decode cX7_fill 30 = .ok (.aload_n 0, 1) := by decide +kernel
theorem dX7_fill_31 : decode cX7_fill 31 = .ok (.getfield 15, 3) := by decide +kernel
theorem dX7_fill_34 : decode cX7_fill 34 = .ok (.iload_n 2, 1) := by decide +kernel
theorem dX7_fill_35 : decode cX7_fill 35 = .ok (.iaload, 1) := by decide +kernel
theorem dX7_fill_36 : decode cX7_fill 36 = .ok (.iadd, 1) := by decide +kernel
theorem dX7_fill_37 : decode cX7_fill 37 = .ok (.iastore, 1) := by decide +kernel
theorem dX7_fill_38 : decode cX7_fill 38 = .ok (.iconst 0, 1) := by decide +kernel
theorem dX7_fill_39 : decode cX7_fill 39 = .ok (.istore 4, 2) := by decide +kernel
theorem dX7_fill_41 : decode cX7_fill 41 = .ok (.iload 4, 2) := by decide +kernel
theorem dX7_fill_43 : decode cX7_fill 43 = .ok (.iload_n 2, 1) := by decide +kernel
theorem dX7_fill_44 : decode cX7_fill 44 = .ok (.if_icmp .ge 88, 3) := by decide +kernel
theorem dX7_fill_47 : decode cX7_fill 47 = .ok (.iconst 1, 1) := by decide +kernel
theorem dX7_fill_48 : decode cX7_fill 48 = .ok (.iload 4, 2) := by decide +kernel
theorem dX7_fill_50 : decode cX7_fill 50 = .ok (.ishl, 1) := by decide +kernel
theorem dX7_fill_51 : decode cX7_fill 51 = .ok (.istore 5, 2) := by decide +kernel
theorem dX7_fill_53 : decode cX7_fill 53 = .ok (.aload_n 0, 1) := by decide +kernel
theorem dX7_fill_54 : decode cX7_fill 54 = .ok (.getfield 18, 3) := by decide +kernel
theorem dX7_fill_57 : decode cX7_fill 57 = .ok (.iload_n 2, 1) := by decide +kernel
theorem dX7_fill_58 : decode cX7_fill 58 = .ok (.bipush 12, 2) := by decide +kernel
theorem dX7_fill_60 : decode cX7_fill 60 = .ok (.imul, 1) := by decide +kernel
theorem dX7_fill_61 : decode cX7_fill 61 = .ok (.iload 4, 2) := by decide +kernel
theorem dX7_fill_63 : decode cX7_fill 63 = .ok (.iadd, 1) := by decide +kernel
theorem dX7_fill_64 : decode cX7_fill 64 = .ok (.iaload, 1) := by decide +kernel
theorem dX7_fill_65 : decode cX7_fill 65 = .ok (.istore 6, 2) := by decide +kernel
theorem dX7_fill_67 : decode cX7_fill 67 = .ok (.iconst 0, 1) := by decide +kernel
theorem dX7_fill_68 : decode cX7_fill 68 = .ok (.istore 7, 2) := by decide +kernel
theorem dX7_fill_70 : decode cX7_fill 70 = .ok (.iload 7, 2) := by decide +kernel
theorem dX7_fill_72 : decode cX7_fill 72 = .ok (.iload 5, 2) := by decide +kernel
theorem dX7_fill_74 : decode cX7_fill 74 = .ok (.if_icmp .ge 52, 3) := by decide +kernel
theorem dX7_fill_77 : decode cX7_fill 77 = .ok (.aload_n 0, 1) := by decide +kernel
theorem dX7_fill_78 : decode cX7_fill 78 = .ok (.getfield 9, 3) := by decide +kernel
theorem dX7_fill_81 : decode cX7_fill 81 = .ok (.iload_n 3, 1) := by decide +kernel
theorem dX7_fill_82 : decode cX7_fill 82 = .ok (.iload 5, 2) := by decide +kernel
theorem dX7_fill_84 : decode cX7_fill 84 = .ok (.iadd, 1) := by decide +kernel
theorem dX7_fill_85 : decode cX7_fill 85 = .ok (.iload 7, 2) := by decide +kernel
theorem dX7_fill_87 : decode cX7_fill 87 = .ok (.iadd, 1) := by decide +kernel
theorem dX7_fill_88 : decode cX7_fill 88 = .ok (.aload_n 0, 1) := by decide +kernel
theorem dX7_fill_89 : decode cX7_fill 89 = .ok (.getfield 9, 3) := by decide +kernel
theorem dX7_fill_92 : decode cX7_fill 92 = .ok (.iload_n 3, 1) := by decide +kernel
theorem dX7_fill_93 : decode cX7_fill 93 = .ok (.iload 7, 2) := by decide +kernel
theorem dX7_fill_95 : decode cX7_fill 95 = .ok (.iadd, 1) := by decide +kernel
theorem dX7_fill_96 : decode cX7_fill 96 = .ok (.iaload, 1) := by decide +kernel
theorem dX7_fill_97 : decode cX7_fill 97 = .ok (.aload_n 0, 1) := by decide +kernel
theorem dX7_fill_98 : decode cX7_fill 98 = .ok (.getfield 9, 3) := by decide +kernel
theorem dX7_fill_101 : decode cX7_fill 101 = .ok (.iload 5, 2) := by decide +kernel
theorem dX7_fill_103 : decode cX7_fill 103 = .ok (.iload 7, 2) := by decide +kernel
theorem dX7_fill_105 : decode cX7_fill 105 = .ok (.iadd, 1) := by decide +kernel
theorem dX7_fill_106 : decode cX7_fill 106 = .ok (.iaload, 1) := by decide +kernel
theorem dX7_fill_107 : decode cX7_fill 107 = .ok (.iadd, 1) := by decide +kernel
theorem dX7_fill_108 : decode cX7_fill 108 = .ok (.aload_n 0, 1) := by decide +kernel
theorem dX7_fill_109 : decode cX7_fill 109 = .ok (.getfield 9, 3) := by decide +kernel
theorem dX7_fill_112 : decode cX7_fill 112 = .ok (.iload 7, 2) := by decide +kernel
theorem dX7_fill_114 : decode cX7_fill 114 = .ok (.iaload, 1) := by decide +kernel
theorem dX7_fill_115 : decode cX7_fill 115 = .ok (.isub, 1) := by decide +kernel
theorem dX7_fill_116 : decode cX7_fill 116 = .ok (.iload 6, 2) := by decide +kernel
theorem dX7_fill_118 : decode cX7_fill 118 = .ok (.iadd, 1) := by decide +kernel
theorem dX7_fill_119 : decode cX7_fill 119 = .ok (.iastore, 1) := by decide +kernel
theorem dX7_fill_120 : decode cX7_fill 120 = .ok (.iinc 7 1, 3) := by decide +kernel
theorem dX7_fill_123 : decode cX7_fill 123 = .ok (.goto (-53), 3) := by decide +kernel
theorem dX7_fill_126 : decode cX7_fill 126 = .ok (.iinc 4 1, 3) := by decide +kernel
theorem dX7_fill_129 : decode cX7_fill 129 = .ok (.goto (-88), 3) := by decide +kernel
theorem dX7_fill_132 : decode cX7_fill 132 = .ok (.iinc 2 1, 3) := by decide +kernel
theorem dX7_fill_135 : decode cX7_fill 135 = .ok (.goto (-123), 3) := by decide +kernel
theorem dX7_fill_138 : decode cX7_fill 138 = .ok (.return_, 1) := by decide +kernel
theorem dX8_init_0 : decode cX8_init 0 = .ok (.aload_n 0, 1) := by decide +kernel
theorem dX8_init_1 : decode cX8_init 1 = .ok (.invokespecial 3, 3) := by decide +kernel
theorem dX8_init_4 : decode cX8_init 4 = .ok (.aload_n 0, 1) := by decide +kernel
theorem dX8_init_5 : decode cX8_init 5 = .ok (.bipush 12, 2) := by decide +kernel
theorem dX8_init_7 : decode cX8_init 7 = .ok (.newarray .int, 2) := by decide +kernel
theorem dX8_init_9 : decode cX8_init 9 = .ok (.putfield 9, 3) := by decide +kernel
theorem dX8_init_12 : decode cX8_init 12 = .ok (.aload_n 0, 1) := by decide +kernel
theorem dX8_init_13 : decode cX8_init 13 = .ok (.bipush 12, 2) := by decide +kernel
theorem dX8_init_15 : decode cX8_init 15 = .ok (.newarray .int, 2) := by decide +kernel
theorem dX8_init_17 : decode cX8_init 17 = .ok (.putfield 15, 3) := by decide +kernel
theorem dX8_init_20 : decode cX8_init 20 = .ok (.aload_n 0, 1) := by decide +kernel
theorem dX8_init_21 : decode cX8_init 21 = .ok (.sipush 256, 3) := by decide +kernel
theorem dX8_init_24 : decode cX8_init 24 = .ok (.newarray .int, 2) := by decide +kernel
theorem dX8_init_26 : decode cX8_init 26 = .ok (.putfield 18, 3) := by decide +kernel
theorem dX8_init_29 : decode cX8_init 29 = .ok (.aload_n 0, 1) := by decide +kernel
theorem dX8_init_30 : decode cX8_init 30 = .ok (.aload_n 1, 1) := by decide +kernel
theorem dX8_init_31 : decode cX8_init 31 = .ok (.putfield 21, 3) := by decide +kernel
theorem dX8_init_34 : decode cX8_init 34 = .ok (.aload_n 0, 1) := by decide +kernel
theorem dX8_init_35 : decode cX8_init 35 = .ok (.aload_n 2, 1) := by decide +kernel
theorem dX8_init_36 : decode cX8_init 36 = .ok (.putfield 25, 3) := by decide +kernel
theorem dX8_init_39 : decode cX8_init 39 = .ok (.return_, 1) := by decide +kernel
theorem dX8_readKinds_0 : decode cX8_readKinds 0 = .ok (.iconst 0, 1) := by decide +kernel
theorem dX8_readKinds_1 : decode cX8_readKinds 1 = .ok (.istore_n 1, 1) := by decide +kernel
theorem dX8_readKinds_2 : decode cX8_readKinds 2 = .ok (.iload_n 1, 1) := by decide +kernel
theorem dX8_readKinds_3 : decode cX8_readKinds 3 = .ok (.aload_n 0, 1) := by decide +kernel
theorem dX8_readKinds_4 : decode cX8_readKinds 4 = .ok (.getfield 21, 3) := by decide +kernel
theorem dX8_readKinds_7 : decode cX8_readKinds 7 = .ok (.getfield 29, 3) := by decide +kernel
theorem dX8_readKinds_10 : decode cX8_readKinds 10 = .ok (.if_icmp .ge 47, 3) := by decide +kernel
theorem dX8_readKinds_13 : decode cX8_readKinds 13 = .ok (.aload_n 0, 1) := by decide +kernel
theorem dX8_readKinds_14 : decode cX8_readKinds 14 = .ok (.getfield 9, 3) := by decide +kernel
theorem dX8_readKinds_17 : decode cX8_readKinds 17 = .ok (.iload_n 1, 1) := by decide +kernel
theorem dX8_readKinds_18 : decode cX8_readKinds 18 = .ok (.aload_n 0, 1) := by decide +kernel
theorem dX8_readKinds_19 : decode cX8_readKinds 19 = .ok (.getfield 21, 3) := by decide +kernel
theorem dX8_readKinds_22 : decode cX8_readKinds 22 = .ok (.getfield 35, 3) := by decide +kernel
theorem dX8_readKinds_25 : decode cX8_readKinds 25 = .ok (.iload_n 1, 1) := by decide +kernel
theorem dX8_readKinds_26 : decode cX8_readKinds 26 = .ok (.iaload, 1) := by decide +kernel
theorem dX8_readKinds_27 : decode cX8_readKinds 27 = .ok (.iconst 1, 1) := by decide +kernel
theorem dX8_readKinds_28 : decode cX8_readKinds 28 = .ok (.invokestatic 38, 3) := by decide +kernel
theorem dX8_readKinds_31 : decode cX8_readKinds 31 = .ok (.iastore, 1) := by decide +kernel
theorem dX8_readKinds_32 : decode cX8_readKinds 32 = .ok (.aload_n 0, 1) := by decide +kernel
theorem dX8_readKinds_33 : decode cX8_readKinds 33 = .ok (.getfield 15, 3) := by decide +kernel
theorem dX8_readKinds_36 : decode cX8_readKinds 36 = .ok (.iload_n 1, 1) := by decide +kernel
theorem dX8_readKinds_37 : decode cX8_readKinds 37 = .ok (.aload_n 0, 1) := by decide +kernel
theorem dX8_readKinds_38 : decode cX8_readKinds 38 = .ok (.getfield 21, 3) := by decide +kernel
theorem dX8_readKinds_41 : decode cX8_readKinds 41 = .ok (.getfield 35, 3) := by decide +kernel
theorem dX8_readKinds_44 : decode cX8_readKinds 44 = .ok (.iload_n 1, 1) := by decide +kernel
theorem dX8_readKinds_45 : decode cX8_readKinds 45 = .ok (.iaload, 1) := by decide +kernel
theorem dX8_readKinds_46 : decode cX8_readKinds 46 = .ok (.iconst 0, 1) := by decide +kernel
theorem dX8_readKinds_47 : decode cX8_readKinds 47 = .ok (.invokestatic 38, 3) := by decide +kernel
theorem dX8_readKinds_50 : decode cX8_readKinds 50 = .ok (.iastore, 1) := by decide +kernel
theorem dX8_readKinds_51 : decode cX8_readKinds 51 = .ok (.iinc 1 1, 3) := by decide +kernel
theorem dX8_readKinds_54 : decode cX8_readKinds 54 = .ok (.goto (-52), 3) := by decide +kernel
theorem dX8_readKinds_57 : decode cX8_readKinds 57 = .ok (.return_, 1) := by decide +kernel
theorem dX8_setsLeft_0 : decode cX8_setsLeft 0 = .ok (.aload_n 0, 1) := by decide +kernel
theorem dX8_setsLeft_1 : decode cX8_setsLeft 1 = .ok (.getfield 25, 3) := by decide +kernel
theorem dX8_setsLeft_4 : decode cX8_setsLeft 4 = .ok (.getfield 44, 3) := by decide +kernel
theorem dX8_setsLeft_7 : decode cX8_setsLeft 7 = .ok (.iconst 1, 1) := by decide +kernel
theorem dX8_setsLeft_8 : decode cX8_setsLeft 8 = .ok (.iload_n 2, 1) := by decide +kernel
theorem dX8_setsLeft_9 : decode cX8_setsLeft 9 = .ok (.ishl, 1) := by decide +kernel
theorem dX8_setsLeft_10 : decode cX8_setsLeft 10 = .ok (.iconst 1, 1) := by decide +kernel
theorem dX8_setsLeft_11 : decode cX8_setsLeft 11 = .ok (.iload_n 3, 1) := by decide +kernel
theorem dX8_setsLeft_12 : decode cX8_setsLeft 12 = .ok (.ishl, 1) := by decide +kernel
theorem dX8_setsLeft_13 : decode cX8_setsLeft 13 = .ok (.ior, 1) := by decide +kernel
theorem dX8_setsLeft_14 : decode cX8_setsLeft 14 = .ok (.iaload, 1) := by decide +kernel
theorem dX8_setsLeft_15 : decode cX8_setsLeft 15 = .ok (.istore 4, 2) := by decide +kernel
theorem dX8_setsLeft_17 : decode cX8_setsLeft 17 = .ok (.aload_n 0, 1) := by decide +kernel
theorem dX8_setsLeft_18 : decode cX8_setsLeft 18 = .ok (.getfield 25, 3) := by decide +kernel
theorem dX8_setsLeft_21 : decode cX8_setsLeft 21 = .ok (.getfield 44, 3) := by decide +kernel
theorem dX8_setsLeft_24 : decode cX8_setsLeft 24 = .ok (.iconst 1, 1) := by decide +kernel
theorem dX8_setsLeft_25 : decode cX8_setsLeft 25 = .ok (.iload_n 2, 1) := by decide +kernel
theorem dX8_setsLeft_26 : decode cX8_setsLeft 26 = .ok (.ishl, 1) := by decide +kernel
theorem dX8_setsLeft_27 : decode cX8_setsLeft 27 = .ok (.iaload, 1) := by decide +kernel
theorem dX8_setsLeft_28 : decode cX8_setsLeft 28 = .ok (.iload 4, 2) := by decide +kernel
theorem dX8_setsLeft_30 : decode cX8_setsLeft 30 = .ok (.isub, 1) := by decide +kernel
theorem dX8_setsLeft_31 : decode cX8_setsLeft 31 = .ok (.istore 5, 2) := by decide +kernel
theorem dX8_setsLeft_33 : decode cX8_setsLeft 33 = .ok (.aload_n 0, 1) := by decide +kernel
theorem dX8_setsLeft_34 : decode cX8_setsLeft 34 = .ok (.getfield 25, 3) := by decide +kernel
theorem dX8_setsLeft_37 : decode cX8_setsLeft 37 = .ok (.getfield 44, 3) := by decide +kernel
theorem dX8_setsLeft_40 : decode cX8_setsLeft 40 = .ok (.iconst 1, 1) := by decide +kernel
theorem dX8_setsLeft_41 : decode cX8_setsLeft 41 = .ok (.iload_n 3, 1) := by decide +kernel
theorem dX8_setsLeft_42 : decode cX8_setsLeft 42 = .ok (.ishl, 1) := by decide +kernel
theorem dX8_setsLeft_43 : decode cX8_setsLeft 43 = .ok (.iaload, 1) := by decide +kernel
theorem dX8_setsLeft_44 : decode cX8_setsLeft 44 = .ok (.iload 4, 2) := by decide +kernel
theorem dX8_setsLeft_46 : decode cX8_setsLeft 46 = .ok (.isub, 1) := by decide +kernel
theorem dX8_setsLeft_47 : decode cX8_setsLeft 47 = .ok (.istore 6, 2) := by decide +kernel
theorem dX8_setsLeft_49 : decode cX8_setsLeft 49 = .ok (.aload_n 0, 1) := by decide +kernel
theorem dX8_setsLeft_50 : decode cX8_setsLeft 50 = .ok (.getfield 25, 3) := by decide +kernel
theorem dX8_setsLeft_53 : decode cX8_setsLeft 53 = .ok (.getfield 49, 3) := by decide +kernel
theorem dX8_setsLeft_56 : decode cX8_setsLeft 56 = .ok (.iload 4, 2) := by decide +kernel
theorem dX8_setsLeft_58 : decode cX8_setsLeft 58 = .ok (.isub, 1) := by decide +kernel
theorem dX8_setsLeft_59 : decode cX8_setsLeft 59 = .ok (.iload 5, 2) := by decide +kernel
theorem dX8_setsLeft_61 : decode cX8_setsLeft 61 = .ok (.isub, 1) := by decide +kernel
theorem dX8_setsLeft_62 : decode cX8_setsLeft 62 = .ok (.iload 6, 2) := by decide +kernel
theorem dX8_setsLeft_64 : decode cX8_setsLeft 64 = .ok (.isub, 1) := by decide +kernel
theorem dX8_setsLeft_65 : decode cX8_setsLeft 65 = .ok (.istore 7, 2) := by decide +kernel
theorem dX8_setsLeft_67 : decode cX8_setsLeft 67 = .ok (.iload_n 1, 1) := by decide +kernel
theorem dX8_setsLeft_68 : decode cX8_setsLeft 68 = .ok (.iconst 1, 1) := by decide +kernel
theorem dX8_setsLeft_69 : decode cX8_setsLeft 69 = .ok (.iand, 1) := by decide +kernel
theorem dX8_setsLeft_70 : decode cX8_setsLeft 70 = .ok (.iload 7, 2) := by decide +kernel
theorem dX8_setsLeft_72 : decode cX8_setsLeft 72 = .ok (.imul, 1) := by decide +kernel
theorem dX8_setsLeft_73 : decode cX8_setsLeft 73 = .ok (.iload_n 1, 1) := by decide +kernel
theorem dX8_setsLeft_74 : decode cX8_setsLeft 74 = .ok (.iconst 1, 1) := by decide +kernel
theorem dX8_setsLeft_75 : decode cX8_setsLeft 75 = .ok (.ishr, 1) := by decide +kernel
theorem dX8_setsLeft_76 : decode cX8_setsLeft 76 = .ok (.iconst 1, 1) := by decide +kernel
theorem dX8_setsLeft_77 : decode cX8_setsLeft 77 = .ok (.iand, 1) := by decide +kernel
theorem dX8_setsLeft_78 : decode cX8_setsLeft 78 = .ok (.iload 6, 2) := by decide +kernel
theorem dX8_setsLeft_80 : decode cX8_setsLeft 80 = .ok (.imul, 1) := by decide +kernel
theorem dX8_setsLeft_81 : decode cX8_setsLeft 81 = .ok (.iadd, 1) := by decide +kernel
theorem dX8_setsLeft_82 : decode cX8_setsLeft 82 = .ok (.iload_n 1, 1) := by decide +kernel
theorem dX8_setsLeft_83 : decode cX8_setsLeft 83 = .ok (.iconst 2, 1) := by decide +kernel
theorem dX8_setsLeft_84 : decode cX8_setsLeft 84 = .ok (.ishr, 1) := by decide +kernel
theorem dX8_setsLeft_85 : decode cX8_setsLeft 85 = .ok (.iconst 1, 1) := by decide +kernel
theorem dX8_setsLeft_86 : decode cX8_setsLeft 86 = .ok (.iand, 1) := by decide +kernel
theorem dX8_setsLeft_87 : decode cX8_setsLeft 87 = .ok (.iload 5, 2) := by decide +kernel
theorem dX8_setsLeft_89 : decode cX8_setsLeft 89 = .ok (.imul, 1) := by decide +kernel
theorem dX8_setsLeft_90 : decode cX8_setsLeft 90 = .ok (.iadd, 1) := by decide +kernel
theorem dX8_setsLeft_91 : decode cX8_setsLeft 91 = .ok (.iload_n 1, 1) := by decide +kernel
theorem dX8_setsLeft_92 : decode cX8_setsLeft 92 = .ok (.iconst 3, 1) := by decide +kernel
theorem dX8_setsLeft_93 : decode cX8_setsLeft 93 = .ok (.ishr, 1) := by decide +kernel
theorem dX8_setsLeft_94 : decode cX8_setsLeft 94 = .ok (.iconst 1, 1) := by decide +kernel
theorem dX8_setsLeft_95 : decode cX8_setsLeft 95 = .ok (.iand, 1) := by decide +kernel
theorem dX8_setsLeft_96 : decode cX8_setsLeft 96 = .ok (.iload 4, 2) := by decide +kernel
theorem dX8_setsLeft_98 : decode cX8_setsLeft 98 = .ok (.imul, 1) := by decide +kernel
theorem dX8_setsLeft_99 : decode cX8_setsLeft 99 = .ok (.iadd, 1) := by decide +kernel
theorem dX8_setsLeft_100 : decode cX8_setsLeft 100 = .ok (.ireturn, 1) := by decide +kernel
theorem dX8_bestTie_0 : decode cX8_bestTie 0 = .ok (.aload_n 0, 1) := by decide +kernel
theorem dX8_bestTie_1 : decode cX8_bestTie 1 = .ok (.invokevirtual 52, 3) := by decide +kernel
theorem dX8_bestTie_4 : decode cX8_bestTie 4 = .ok (.aload_n 0, 1) := by decide +kernel
theorem dX8_bestTie_5 : decode cX8_bestTie 5 = .ok (.getfield 25, 3) := by decide +kernel
theorem dX8_bestTie_8 : decode cX8_bestTie 8 = .ok (.invokevirtual 55, 3) := by decide +kernel
theorem dX8_bestTie_11 : decode cX8_bestTie 11 = .ok (.iconst (-1), 1) := by decide +kernel
theorem dX8_bestTie_12 : decode cX8_bestTie 12 = .ok (.istore_n 1, 1) := by decide +kernel
theorem dX8_bestTie_13 : decode cX8_bestTie 13 = .ok (.iconst 0, 1) := by decide +kernel
theorem dX8_bestTie_14 : decode cX8_bestTie 14 = .ok (.istore_n 2, 1) := by decide +kernel
theorem dX8_bestTie_15 : decode cX8_bestTie 15 = .ok (.iconst 0, 1) := by decide +kernel
theorem dX8_bestTie_16 : decode cX8_bestTie 16 = .ok (.istore_n 3, 1) := by decide +kernel
theorem dX8_bestTie_17 : decode cX8_bestTie 17 = .ok (.iload_n 3, 1) := by decide +kernel
theorem dX8_bestTie_18 : decode cX8_bestTie 18 = .ok (.aload_n 0, 1) := by decide +kernel
theorem dX8_bestTie_19 : decode cX8_bestTie 19 = .ok (.getfield 21, 3) := by decide +kernel
theorem dX8_bestTie_22 : decode cX8_bestTie 22 = .ok (.getfield 29, 3) := by decide +kernel
theorem dX8_bestTie_25 : decode cX8_bestTie 25 = .ok (.if_icmp .ge 131, 3) := by decide +kernel
theorem dX8_bestTie_28 : decode cX8_bestTie 28 = .ok (.iconst 0, 1) := by decide +kernel
theorem dX8_bestTie_29 : decode cX8_bestTie 29 = .ok (.istore 4, 2) := by decide +kernel
theorem dX8_bestTie_31 : decode cX8_bestTie 31 = .ok (.iload 4, 2) := by decide +kernel
theorem dX8_bestTie_33 : decode cX8_bestTie 33 = .ok (.aload_n 0, 1) := by decide +kernel
theorem dX8_bestTie_34 : decode cX8_bestTie 34 = .ok (.getfield 21, 3) := by decide +kernel
theorem dX8_bestTie_37 : decode cX8_bestTie 37 = .ok (.getfield 29, 3) := by decide +kernel
theorem dX8_bestTie_40 : decode cX8_bestTie 40 = .ok (.if_icmp .ge 110, 3) := by decide +kernel
theorem dX8_bestTie_43 : decode cX8_bestTie 43 = .ok (.aload_n 0, 1) := by decide +kernel
theorem dX8_bestTie_44 : decode cX8_bestTie 44 = .ok (.getfield 21, 3) := by decide +kernel
theorem dX8_bestTie_47 : decode cX8_bestTie 47 = .ok (.iload_n 3, 1) := by decide +kernel
theorem dX8_bestTie_48 : decode cX8_bestTie 48 = .ok (.iload 4, 2) := by decide +kernel
theorem dX8_bestTie_50 : decode cX8_bestTie 50 = .ok (.invokevirtual 58, 3) := by decide +kernel
theorem dX8_bestTie_53 : decode cX8_bestTie 53 = .ok (.ifCond .eq 91, 3) := by decide +kernel
theorem dX8_bestTie_56 : decode cX8_bestTie 56 = .ok (.aload_n 0, 1) := by decide +kernel
theorem dX8_bestTie_57 : decode cX8_bestTie 57 = .ok (.aload_n 0, 1) := by decide +kernel
theorem dX8_bestTie_58 : decode cX8_bestTie 58 = .ok (.getfield 9, 3) := by decide +kernel
theorem dX8_bestTie_61 : decode cX8_bestTie 61 = .ok (.iload_n 3, 1) := by decide +kernel
theorem dX8_bestTie_62 : decode cX8_bestTie 62 = .ok (.iaload, 1) := by decide +kernel
theorem dX8_bestTie_63 : decode cX8_bestTie 63 = .ok (.iload_n 3, 1) := by decide +kernel
theorem dX8_bestTie_64 : decode cX8_bestTie 64 = .ok (.iload 4, 2) := by decide +kernel
theorem dX8_bestTie_66 : decode cX8_bestTie 66 = .ok (.invokevirtual 62, 3) := by decide +kernel
theorem dX8_bestTie_69 : decode cX8_bestTie 69 = .ok (.aload_n 0, 1) := by decide +kernel
theorem dX8_bestTie_70 : decode cX8_bestTie 70 = .ok (.aload_n 0, 1) := by decide +kernel
theorem dX8_bestTie_71 : decode cX8_bestTie 71 = .ok (.getfield 15, 3) := by decide +kernel
theorem dX8_bestTie_74 : decode cX8_bestTie 74 = .ok (.iload_n 3, 1) := by decide +kernel
theorem dX8_bestTie_75 : decode cX8_bestTie 75 = .ok (.iaload, 1) := by decide +kernel
theorem dX8_bestTie_76 : decode cX8_bestTie 76 = .ok (.iload_n 3, 1) := by decide +kernel
theorem dX8_bestTie_77 : decode cX8_bestTie 77 = .ok (.iload 4, 2) := by decide +kernel
theorem dX8_bestTie_79 : decode cX8_bestTie 79 = .ok (.invokevirtual 62, 3) := by decide +kernel
theorem dX8_bestTie_82 : decode cX8_bestTie 82 = .ok (.invokestatic 66, 3) := by decide +kernel
theorem dX8_bestTie_85 : decode cX8_bestTie 85 = .ok (.istore 5, 2) := by decide +kernel
theorem dX8_bestTie_87 : decode cX8_bestTie 87 = .ok (.aload_n 0, 1) := by decide +kernel
theorem dX8_bestTie_88 : decode cX8_bestTie 88 = .ok (.getfield 21, 3) := by decide +kernel
theorem dX8_bestTie_91 : decode cX8_bestTie 91 = .ok (.iload_n 3, 1) := by decide +kernel
theorem dX8_bestTie_92 : decode cX8_bestTie 92 = .ok (.iload 4, 2) := by decide +kernel
theorem dX8_bestTie_94 : decode cX8_bestTie 94 = .ok (.invokevirtual 72, 3) := by decide +kernel
theorem dX8_bestTie_97 : decode cX8_bestTie 97 = .ok (.istore 6, 2) := by decide +kernel
theorem dX8_bestTie_99 : decode cX8_bestTie 99 = .ok (.iload_n 1, 1) := by decide +kernel
theorem dX8_bestTie_100 : decode cX8_bestTie 100 = .ok (.ifCond .lt 27, 3) := by decide +kernel
theorem dX8_bestTie_103 : decode cX8_bestTie 103 = .ok (.iload 5, 2) := by decide +kernel
theorem dX8_bestTie_105 : decode cX8_bestTie 105 = .ok (.aload_n 0, 1) := by decide +kernel
theorem dX8_bestTie_106 : decode cX8_bestTie 106 = .ok (.getfield 75, 3) := by decide +kernel
theorem dX8_bestTie_109 : decode cX8_bestTie 109 = .ok (.if_icmp .lt 18, 3) := by decide +kernel
theorem dX8_bestTie_112 : decode cX8_bestTie 112 = .ok (.iload 5, 2) := by decide +kernel
theorem dX8_bestTie_114 : decode cX8_bestTie 114 = .ok (.aload_n 0, 1) := by decide +kernel
theorem dX8_bestTie_115 : decode cX8_bestTie 115 = .ok (.getfield 75, 3) := by decide +kernel
theorem dX8_bestTie_118 : decode cX8_bestTie 118 = .ok (.if_icmp .ne 26, 3) := by decide +kernel
theorem dX8_bestTie_121 : decode cX8_bestTie 121 = .ok (.iload 6, 2) := by decide +kernel
theorem dX8_bestTie_123 : decode cX8_bestTie 123 = .ok (.iload_n 2, 1) := by decide +kernel
theorem dX8_bestTie_124 : decode cX8_bestTie 124 = .ok (.if_icmp .ge 20, 3) := by decide +kernel
theorem dX8_bestTie_127 : decode cX8_bestTie 127 = .ok (.bipush 100, 2) := by decide +kernel
theorem dX8_bestTie_129 : decode cX8_bestTie 129 = .ok (.iload_n 3, 1) := by decide +kernel
theorem dX8_bestTie_130 : decode cX8_bestTie 130 = .ok (.imul, 1) := by decide +kernel
theorem dX8_bestTie_131 : decode cX8_bestTie 131 = .ok (.iload 4, 2) := by decide +kernel
theorem dX8_bestTie_133 : decode cX8_bestTie 133 = .ok (.iadd, 1) := by decide +kernel
theorem dX8_bestTie_134 : decode cX8_bestTie 134 = .ok (.istore_n 1, 1) := by decide +kernel
theorem dX8_bestTie_135 : decode cX8_bestTie 135 = .ok (.aload_n 0, 1) := by decide +kernel
theorem dX8_bestTie_136 : decode cX8_bestTie 136 = .ok (.iload 5, 2) := by decide +kernel
theorem dX8_bestTie_138 : decode cX8_bestTie 138 = .ok (.putfield 75, 3) := by decide +kernel
theorem dX8_bestTie_141 : decode cX8_bestTie 141 = .ok (.iload 6, 2) := by decide +kernel
theorem dX8_bestTie_143 : decode cX8_bestTie 143 = .ok (.istore_n 2, 1) := by decide +kernel
theorem dX8_bestTie_144 : decode cX8_bestTie 144 = .ok (.iinc 4 1, 3) := by decide +kernel
theorem dX8_bestTie_147 : decode cX8_bestTie 147 = .ok (.goto (-116), 3) := by decide +kernel
theorem dX8_bestTie_150 : decode cX8_bestTie 150 = .ok (.iinc 3 1, 3) := by decide +kernel
theorem dX8_bestTie_153 : decode cX8_bestTie 153 = .ok (.goto (-136), 3) := by decide +kernel
theorem dX8_bestTie_156 : decode cX8_bestTie 156 = .ok (.iload_n 1, 1) := by decide +kernel
theorem dX8_bestTie_157 : decode cX8_bestTie 157 = .ok (.ireturn, 1) := by decide +kernel
theorem dX8_roundsNeeded_0 : decode cX8_roundsNeeded 0 = .ok (.aload_n 0, 1) := by decide +kernel
theorem dX8_roundsNeeded_1 : decode cX8_roundsNeeded 1 = .ok (.getfield 25, 3) := by decide +kernel
theorem dX8_roundsNeeded_4 : decode cX8_roundsNeeded 4 = .ok (.getfield 49, 3) := by decide +kernel
theorem dX8_roundsNeeded_7 : decode cX8_roundsNeeded 7 = .ok (.iconst 1, 1) := by decide +kernel
theorem dX8_roundsNeeded_8 : decode cX8_roundsNeeded 8 = .ok (.if_icmp .gt 5, 3) := by decide +kernel
theorem dX8_roundsNeeded_11 : decode cX8_roundsNeeded 11 = .ok (.iconst 0, 1) := by decide +kernel
theorem dX8_roundsNeeded_12 : decode cX8_roundsNeeded 12 = .ok (.ireturn, 1) := by decide +kernel
theorem dX8_roundsNeeded_13 : decode cX8_roundsNeeded 13 = .ok (.aload_n 0, 1) := by decide +kernel
theorem dX8_roundsNeeded_14 : decode cX8_roundsNeeded 14 = .ok (.invokevirtual 52, 3) := by decide +kernel
theorem dX8_roundsNeeded_17 : decode cX8_roundsNeeded 17 = .ok (.aload_n 0, 1) := by decide +kernel
theorem dX8_roundsNeeded_18 : decode cX8_roundsNeeded 18 = .ok (.aload_n 0, 1) := by decide +kernel
theorem dX8_roundsNeeded_19 : decode cX8_roundsNeeded 19 = .ok (.getfield 25, 3) := by decide +kernel
theorem dX8_roundsNeeded_22 : decode cX8_roundsNeeded 22 = .ok (.getfield 78, 3) := by decide +kernel
theorem dX8_roundsNeeded_25 : decode cX8_roundsNeeded 25 = .ok (.aload_n 0, 1) := by decide +kernel
theorem dX8_roundsNeeded_26 : decode cX8_roundsNeeded 26 = .ok (.getfield 25, 3) := by decide +kernel
theorem dX8_roundsNeeded_29 : decode cX8_roundsNeeded 29 = .ok (.getfield 49, 3) := by decide +kernel
theorem dX8_roundsNeeded_32 : decode cX8_roundsNeeded 32 = .ok (.invokevirtual 81, 3) := by decide +kernel
theorem dX8_roundsNeeded_35 : decode cX8_roundsNeeded 35 = .ok (.ifCond .eq 5, 3) := by decide +kernel
theorem dX8_roundsNeeded_38 : decode cX8_roundsNeeded 38 = .ok (.iconst 1, 1) := by decide +kernel
theorem dX8_roundsNeeded_39 : decode cX8_roundsNeeded 39 = .ok (.ireturn, 1) := by decide +kernel
theorem dX8_roundsNeeded_40 : decode cX8_roundsNeeded 40 = .ok (.iconst 0, 1) := by decide +kernel
theorem dX8_roundsNeeded_41 : decode cX8_roundsNeeded 41 = .ok (.istore_n 1, 1) := by decide +kernel
theorem dX8_roundsNeeded_42 : decode cX8_roundsNeeded 42 = .ok (.iload_n 1, 1) := by decide +kernel
theorem dX8_roundsNeeded_43 : decode cX8_roundsNeeded 43 = .ok (.aload_n 0, 1) := by decide +kernel
theorem dX8_roundsNeeded_44 : decode cX8_roundsNeeded 44 = .ok (.getfield 21, 3) := by decide +kernel
theorem dX8_roundsNeeded_47 : decode cX8_roundsNeeded 47 = .ok (.getfield 29, 3) := by decide +kernel
theorem dX8_roundsNeeded_50 : decode cX8_roundsNeeded 50 = .ok (.if_icmp .ge 72, 3) := by decide +kernel
theorem dX8_roundsNeeded_53 : decode cX8_roundsNeeded 53 = .ok (.iconst 0, 1) := by decide +kernel
theorem dX8_roundsNeeded_54 : decode cX8_roundsNeeded 54 = .ok (.istore_n 2, 1) := by decide +kernel
theorem dX8_roundsNeeded_55 : decode cX8_roundsNeeded 55 = .ok (.iload_n 2, 1) := by decide +kernel
theorem dX8_roundsNeeded_56 : decode cX8_roundsNeeded 56 = .ok (.aload_n 0, 1) := by decide +kernel
theorem dX8_roundsNeeded_57 : decode cX8_roundsNeeded 57 = .ok (.getfield 21, 3) := by decide +kernel
theorem dX8_roundsNeeded_60 : decode cX8_roundsNeeded 60 = .ok (.getfield 29, 3) := by decide +kernel
theorem dX8_roundsNeeded_63 : decode cX8_roundsNeeded 63 = .ok (.if_icmp .ge 53, 3) := by decide +kernel
theorem dX8_roundsNeeded_66 : decode cX8_roundsNeeded 66 = .ok (.aload_n 0, 1) := by decide +kernel
theorem dX8_roundsNeeded_67 : decode cX8_roundsNeeded 67 = .ok (.getfield 21, 3) := by decide +kernel
theorem dX8_roundsNeeded_70 : decode cX8_roundsNeeded 70 = .ok (.iload_n 1, 1) := by decide +kernel
theorem dX8_roundsNeeded_71 : decode cX8_roundsNeeded 71 = .ok (.iload_n 2, 1) := by decide +kernel
theorem dX8_roundsNeeded_72 : decode cX8_roundsNeeded 72 = .ok (.invokevirtual 58, 3) := by decide +kernel
theorem dX8_roundsNeeded_75 : decode cX8_roundsNeeded 75 = .ok (.ifCond .eq 35, 3) := by decide +kernel
theorem dX8_roundsNeeded_78 : decode cX8_roundsNeeded 78 = .ok (.aload_n 0, 1) := by decide +kernel
theorem dX8_roundsNeeded_79 : decode cX8_roundsNeeded 79 = .ok (.aload_n 0, 1) := by decide +kernel
theorem dX8_roundsNeeded_80 : decode cX8_roundsNeeded 80 = .ok (.getfield 9, 3) := by decide +kernel
theorem dX8_roundsNeeded_83 : decode cX8_roundsNeeded 83 = .ok (.iload_n 1, 1) := by decide +kernel
theorem dX8_roundsNeeded_84 : decode cX8_roundsNeeded 84 = .ok (.iaload, 1) := by decide +kernel
theorem dX8_roundsNeeded_85 : decode cX8_roundsNeeded 85 = .ok (.iload_n 1, 1) := by decide +kernel
theorem dX8_roundsNeeded_86 : decode cX8_roundsNeeded 86 = .ok (.iload_n 2, 1) := by decide +kernel
theorem dX8_roundsNeeded_87 : decode cX8_roundsNeeded 87 = .ok (.invokevirtual 85, 3) := by decide +kernel
theorem dX8_roundsNeeded_90 : decode cX8_roundsNeeded 90 = .ok (.ifCond .eq 20, 3) := by decide +kernel
theorem dX8_roundsNeeded_93 : decode cX8_roundsNeeded 93 = .ok (.aload_n 0, 1) := by decide +kernel
theorem dX8_roundsNeeded_94 : decode cX8_roundsNeeded 94 = .ok (.aload_n 0, 1) := by decide +kernel
theorem dX8_roundsNeeded_95 : decode cX8_roundsNeeded 95 = .ok (.getfield 15, 3) := by decide +kernel
theorem dX8_roundsNeeded_98 : decode cX8_roundsNeeded 98 = .ok (.iload_n 1, 1) := by decide +kernel
theorem dX8_roundsNeeded_99 : decode cX8_roundsNeeded 99 = .ok (.iaload, 1) := by decide +kernel
theorem dX8_roundsNeeded_100 : decode cX8_roundsNeeded 100 = .ok (.iload_n 1, 1) := by decide +kernel
theorem dX8_roundsNeeded_101 : decode cX8_roundsNeeded 101 = .ok (.iload_n 2, 1) := by decide +kernel
theorem dX8_roundsNeeded_102 : decode cX8_roundsNeeded 102 = .ok (.invokevirtual 85, 3) := by decide +kernel
theorem dX8_roundsNeeded_105 : decode cX8_roundsNeeded 105 = .ok (.ifCond .eq 5, 3) := by decide +kernel
theorem dX8_roundsNeeded_108 : decode cX8_roundsNeeded 108 = .ok (.iconst 2, 1) := by decide +kernel
theorem dX8_roundsNeeded_109 : decode cX8_roundsNeeded 109 = .ok (.ireturn, 1) := by decide +kernel
theorem dX8_roundsNeeded_110 : decode cX8_roundsNeeded 110 = .ok (.iinc 2 1, 3) := by decide +kernel
theorem dX8_roundsNeeded_113 : decode cX8_roundsNeeded 113 = .ok (.goto (-58), 3) := by decide +kernel
theorem dX8_roundsNeeded_116 : decode cX8_roundsNeeded 116 = .ok (.iinc 1 1, 3) := by decide +kernel
theorem dX8_roundsNeeded_119 : decode cX8_roundsNeeded 119 = .ok (.goto (-77), 3) := by decide +kernel
theorem dX8_roundsNeeded_122 : decode cX8_roundsNeeded 122 = .ok (.iconst (-1), 1) := by decide +kernel
theorem dX8_roundsNeeded_123 : decode cX8_roundsNeeded 123 = .ok (.ireturn, 1) := by decide +kernel
theorem dX8_oneMoreDoes_0 : decode cX8_oneMoreDoes 0 = .ok (.iconst 0, 1) := by decide +kernel
theorem dX8_oneMoreDoes_1 : decode cX8_oneMoreDoes 1 = .ok (.istore 4, 2) := by decide +kernel
theorem dX8_oneMoreDoes_3 : decode cX8_oneMoreDoes 3 = .ok (.iconst 0, 1) := by decide +kernel
theorem dX8_oneMoreDoes_4 : decode cX8_oneMoreDoes 4 = .ok (.istore 5, 2) := by decide +kernel
theorem dX8_oneMoreDoes_6 : decode cX8_oneMoreDoes 6 = .ok (.iload 5, 2) := by decide +kernel
theorem dX8_oneMoreDoes_8 : decode cX8_oneMoreDoes 8 = .ok (.aload_n 0, 1) := by decide +kernel
theorem dX8_oneMoreDoes_9 : decode cX8_oneMoreDoes 9 = .ok (.getfield 25, 3) := by decide +kernel
theorem dX8_oneMoreDoes_12 : decode cX8_oneMoreDoes 12 = .ok (.getfield 49, 3) := by decide +kernel
theorem dX8_oneMoreDoes_15 : decode cX8_oneMoreDoes 15 = .ok (.if_icmp .ge 58, 3) := by decide +kernel
theorem dX8_oneMoreDoes_18 : decode cX8_oneMoreDoes 18 = .ok (.iload 4, 2) := by decide +kernel
theorem dX8_oneMoreDoes_20 : decode cX8_oneMoreDoes 20 = .ok (.aload_n 0, 1) := by decide +kernel
theorem dX8_oneMoreDoes_21 : decode cX8_oneMoreDoes 21 = .ok (.getfield 18, 3) := by decide +kernel
theorem dX8_oneMoreDoes_24 : decode cX8_oneMoreDoes 24 = .ok (.arraylength, 1) := by decide +kernel
theorem dX8_oneMoreDoes_25 : decode cX8_oneMoreDoes 25 = .ok (.if_icmp .ge 48, 3) := by decide +kernel
theorem dX8_oneMoreDoes_28 : decode cX8_oneMoreDoes 28 = .ok (.iload_n 1, 1) := by decide +kernel
theorem dX8_oneMoreDoes_29 : decode cX8_oneMoreDoes 29 = .ok (.aload_n 0, 1) := by decide +kernel
theorem dX8_oneMoreDoes_30 : decode cX8_oneMoreDoes 30 = .ok (.getfield 25, 3) := by decide +kernel
theorem dX8_oneMoreDoes_33 : decode cX8_oneMoreDoes 33 = .ok (.getfield 78, 3) := by decide +kernel
theorem dX8_oneMoreDoes_36 : decode cX8_oneMoreDoes 36 = .ok (.iload 5, 2) := by decide +kernel
theorem dX8_oneMoreDoes_38 : decode cX8_oneMoreDoes 38 = .ok (.iaload, 1) := by decide +kernel
theorem dX8_oneMoreDoes_39 : decode cX8_oneMoreDoes 39 = .ok (.iload_n 2, 1) := by decide +kernel
theorem dX8_oneMoreDoes_40 : decode cX8_oneMoreDoes 40 = .ok (.iload_n 3, 1) := by decide +kernel
theorem dX8_oneMoreDoes_41 : decode cX8_oneMoreDoes 41 = .ok (.invokestatic 89, 3) := by decide +kernel
theorem dX8_oneMoreDoes_44 : decode cX8_oneMoreDoes 44 = .ok (.ifCond .eq 23, 3) := by decide +kernel
theorem dX8_oneMoreDoes_47 : decode cX8_oneMoreDoes 47 = .ok (.aload_n 0, 1) := by decide +kernel
theorem dX8_oneMoreDoes_48 : decode cX8_oneMoreDoes 48 = .ok (.getfield 18, 3) := by decide +kernel
theorem dX8_oneMoreDoes_51 : decode cX8_oneMoreDoes 51 = .ok (.iload 4, 2) := by decide +kernel
theorem dX8_oneMoreDoes_53 : decode cX8_oneMoreDoes 53 = .ok (.aload_n 0, 1) := by decide +kernel
theorem dX8_oneMoreDoes_54 : decode cX8_oneMoreDoes 54 = .ok (.getfield 25, 3) := by decide +kernel
theorem dX8_oneMoreDoes_57 : decode cX8_oneMoreDoes 57 = .ok (.getfield 78, 3) := by decide +kernel
theorem dX8_oneMoreDoes_60 : decode cX8_oneMoreDoes 60 = .ok (.iload 5, 2) := by decide +kernel
theorem dX8_oneMoreDoes_62 : decode cX8_oneMoreDoes 62 = .ok (.iaload, 1) := by decide +kernel
theorem dX8_oneMoreDoes_63 : decode cX8_oneMoreDoes 63 = .ok (.iastore, 1) := by decide +kernel
theorem dX8_oneMoreDoes_64 : decode cX8_oneMoreDoes 64 = .ok (.iinc 4 1, 3) := by decide +kernel
theorem dX8_oneMoreDoes_67 : decode cX8_oneMoreDoes 67 = .ok (.iinc 5 1, 3) := by decide +kernel
theorem dX8_oneMoreDoes_70 : decode cX8_oneMoreDoes 70 = .ok (.goto (-64), 3) := by decide +kernel
theorem dX8_oneMoreDoes_73 : decode cX8_oneMoreDoes 73 = .ok (.iload 4, 2) := by decide +kernel
theorem dX8_oneMoreDoes_75 : decode cX8_oneMoreDoes 75 = .ok (.iconst 1, 1) := by decide +kernel
theorem dX8_oneMoreDoes_76 : decode cX8_oneMoreDoes 76 = .ok (.if_icmp .le 16, 3) := by decide +kernel
theorem dX8_oneMoreDoes_79 : decode cX8_oneMoreDoes 79 = .ok (.aload_n 0, 1) := by decide +kernel
theorem dX8_oneMoreDoes_80 : decode cX8_oneMoreDoes 80 = .ok (.aload_n 0, 1) := by decide +kernel
theorem dX8_oneMoreDoes_81 : decode cX8_oneMoreDoes 81 = .ok (.getfield 18, 3) := by decide +kernel
theorem dX8_oneMoreDoes_84 : decode cX8_oneMoreDoes 84 = .ok (.iload 4, 2) := by decide +kernel
theorem dX8_oneMoreDoes_86 : decode cX8_oneMoreDoes 86 = .ok (.invokevirtual 81, 3) := by decide +kernel
theorem dX8_oneMoreDoes_89 : decode cX8_oneMoreDoes 89 = .ok (.ifCond .eq 7, 3) := by decide +kernel
theorem dX8_oneMoreDoes_92 : decode cX8_oneMoreDoes 92 = .ok (.iconst 1, 1) := by decide +kernel
theorem dX8_oneMoreDoes_93 : decode cX8_oneMoreDoes 93 = .ok (.goto 4, 3) := by decide +kernel
theorem dX8_oneMoreDoes_96 : decode cX8_oneMoreDoes 96 = .ok (.iconst 0, 1) := by decide +kernel
theorem dX8_oneMoreDoes_97 : decode cX8_oneMoreDoes 97 = .ok (.ireturn, 1) := by decide +kernel
theorem dX8_oneTrialDoes_0 : decode cX8_oneTrialDoes 0 = .ok (.iconst 0, 1) := by decide +kernel
theorem dX8_oneTrialDoes_1 : decode cX8_oneTrialDoes 1 = .ok (.istore_n 3, 1) := by decide +kernel
theorem dX8_oneTrialDoes_2 : decode cX8_oneTrialDoes 2 = .ok (.iload_n 3, 1) := by decide +kernel
theorem dX8_oneTrialDoes_3 : decode cX8_oneTrialDoes 3 = .ok (.aload_n 0, 1) := by decide +kernel
theorem dX8_oneTrialDoes_4 : decode cX8_oneTrialDoes 4 = .ok (.getfield 21, 3) := by decide +kernel
theorem dX8_oneTrialDoes_7 : decode cX8_oneTrialDoes 7 = .ok (.getfield 29, 3) := by decide +kernel
theorem dX8_oneTrialDoes_10 : decode cX8_oneTrialDoes 10 = .ok (.if_icmp .ge 57, 3) := by decide +kernel
theorem dX8_oneTrialDoes_13 : decode cX8_oneTrialDoes 13 = .ok (.iconst 0, 1) := by decide +kernel
theorem dX8_oneTrialDoes_14 : decode cX8_oneTrialDoes 14 = .ok (.istore 4, 2) := by decide +kernel
theorem dX8_oneTrialDoes_16 : decode cX8_oneTrialDoes 16 = .ok (.iload 4, 2) := by decide +kernel
theorem dX8_oneTrialDoes_18 : decode cX8_oneTrialDoes 18 = .ok (.aload_n 0, 1) := by decide +kernel
theorem dX8_oneTrialDoes_19 : decode cX8_oneTrialDoes 19 = .ok (.getfield 21, 3) := by decide +kernel
theorem dX8_oneTrialDoes_22 : decode cX8_oneTrialDoes 22 = .ok (.getfield 29, 3) := by decide +kernel
theorem dX8_oneTrialDoes_25 : decode cX8_oneTrialDoes 25 = .ok (.if_icmp .ge 36, 3) := by decide +kernel
theorem dX8_oneTrialDoes_28 : decode cX8_oneTrialDoes 28 = .ok (.aload_n 0, 1) := by decide +kernel
theorem dX8_oneTrialDoes_29 : decode cX8_oneTrialDoes 29 = .ok (.getfield 21, 3) := by decide +kernel
theorem dX8_oneTrialDoes_32 : decode cX8_oneTrialDoes 32 = .ok (.iload_n 3, 1) := by decide +kernel
theorem dX8_oneTrialDoes_33 : decode cX8_oneTrialDoes 33 = .ok (.iload 4, 2) := by decide +kernel
theorem dX8_oneTrialDoes_35 : decode cX8_oneTrialDoes 35 = .ok (.invokevirtual 58, 3) := by decide +kernel
theorem dX8_oneTrialDoes_38 : decode cX8_oneTrialDoes 38 = .ok (.ifCond .eq 17, 3) := by decide +kernel
theorem dX8_oneTrialDoes_41 : decode cX8_oneTrialDoes 41 = .ok (.aload_n 0, 1) := by decide +kernel
theorem dX8_oneTrialDoes_42 : decode cX8_oneTrialDoes 42 = .ok (.aload_n 1, 1) := by decide +kernel
theorem dX8_oneTrialDoes_43 : decode cX8_oneTrialDoes 43 = .ok (.iload_n 2, 1) := by decide +kernel
theorem dX8_oneTrialDoes_44 : decode cX8_oneTrialDoes 44 = .ok (.iload_n 3, 1) := by decide +kernel
theorem dX8_oneTrialDoes_45 : decode cX8_oneTrialDoes 45 = .ok (.iload 4, 2) := by decide +kernel
theorem dX8_oneTrialDoes_47 : decode cX8_oneTrialDoes 47 = .ok (.invokevirtual 93, 3) := by decide +kernel
theorem dX8_oneTrialDoes_50 : decode cX8_oneTrialDoes 50 = .ok (.ifCond .eq 5, 3) := by decide +kernel
theorem dX8_oneTrialDoes_53 : decode cX8_oneTrialDoes 53 = .ok (.iconst 1, 1) := by decide +kernel
theorem dX8_oneTrialDoes_54 : decode cX8_oneTrialDoes 54 = .ok (.ireturn, 1) := by decide +kernel
theorem dX8_oneTrialDoes_55 : decode cX8_oneTrialDoes 55 = .ok (.iinc 4 1, 3) := by decide +kernel
theorem dX8_oneTrialDoes_58 : decode cX8_oneTrialDoes 58 = .ok (.goto (-42), 3) := by decide +kernel
theorem dX8_oneTrialDoes_61 : decode cX8_oneTrialDoes 61 = .ok (.iinc 3 1, 3) := by decide +kernel
theorem dX8_oneTrialDoes_64 : decode cX8_oneTrialDoes 64 = .ok (.goto (-62), 3) := by decide +kernel
theorem dX8_oneTrialDoes_67 : decode cX8_oneTrialDoes 67 = .ok (.iconst 0, 1) := by decide +kernel
theorem dX8_oneTrialDoes_68 : decode cX8_oneTrialDoes 68 = .ok (.ireturn, 1) := by decide +kernel
theorem dX8_leavesAtMostOne_0 : decode cX8_leavesAtMostOne 0 = .ok (.iconst 0, 1) := by decide +kernel
theorem dX8_leavesAtMostOne_1 : decode cX8_leavesAtMostOne 1 = .ok (.istore 5, 2) := by decide +kernel
theorem dX8_leavesAtMostOne_3 : decode cX8_leavesAtMostOne 3 = .ok (.iconst 0, 1) := by decide +kernel
theorem dX8_leavesAtMostOne_4 : decode cX8_leavesAtMostOne 4 = .ok (.istore 6, 2) := by decide +kernel
theorem dX8_leavesAtMostOne_6 : decode cX8_leavesAtMostOne 6 = .ok (.iconst 0, 1) := by decide +kernel
theorem dX8_leavesAtMostOne_7 : decode cX8_leavesAtMostOne 7 = .ok (.istore 7, 2) := by decide +kernel
theorem dX8_leavesAtMostOne_9 : decode cX8_leavesAtMostOne 9 = .ok (.iload 7, 2) := by decide +kernel
theorem dX8_leavesAtMostOne_11 : decode cX8_leavesAtMostOne 11 = .ok (.iload_n 2, 1) := by decide +kernel
theorem dX8_leavesAtMostOne_12 : decode cX8_leavesAtMostOne 12 = .ok (.if_icmp .ge 79, 3) := by decide +kernel
theorem dX8_leavesAtMostOne_15 : decode cX8_leavesAtMostOne 15 = .ok (.iload 5, 2) := by decide +kernel
theorem dX8_leavesAtMostOne_17 : decode cX8_leavesAtMostOne 17 = .ok (.iconst 1, 1) := by decide +kernel
theorem dX8_leavesAtMostOne_18 : decode cX8_leavesAtMostOne 18 = .ok (.if_icmp .gt 73, 3) := by decide +kernel
theorem dX8_leavesAtMostOne_21 : decode cX8_leavesAtMostOne 21 = .ok (.iload 6, 2) := by decide +kernel
theorem dX8_leavesAtMostOne_23 : decode cX8_leavesAtMostOne 23 = .ok (.iconst 1, 1) := by decide +kernel
theorem dX8_leavesAtMostOne_24 : decode cX8_leavesAtMostOne 24 = .ok (.if_icmp .gt 67, 3) := by decide +kernel
theorem dX8_leavesAtMostOne_27 : decode cX8_leavesAtMostOne 27 = .ok (.iload 5, 2) := by decide +kernel
theorem dX8_leavesAtMostOne_29 : decode cX8_leavesAtMostOne 29 = .ok (.aload_n 0, 1) := by decide +kernel
theorem dX8_leavesAtMostOne_30 : decode cX8_leavesAtMostOne 30 = .ok (.getfield 9, 3) := by decide +kernel
theorem dX8_leavesAtMostOne_33 : decode cX8_leavesAtMostOne 33 = .ok (.iload_n 3, 1) := by decide +kernel
theorem dX8_leavesAtMostOne_34 : decode cX8_leavesAtMostOne 34 = .ok (.iaload, 1) := by decide +kernel
theorem dX8_leavesAtMostOne_35 : decode cX8_leavesAtMostOne 35 = .ok (.aload_n 1, 1) := by decide +kernel
theorem dX8_leavesAtMostOne_36 : decode cX8_leavesAtMostOne 36 = .ok (.iload 7, 2) := by decide +kernel
theorem dX8_leavesAtMostOne_38 : decode cX8_leavesAtMostOne 38 = .ok (.iaload, 1) := by decide +kernel
theorem dX8_leavesAtMostOne_39 : decode cX8_leavesAtMostOne 39 = .ok (.iload_n 3, 1) := by decide +kernel
theorem dX8_leavesAtMostOne_40 : decode cX8_leavesAtMostOne 40 = .ok (.iload 4, 2) := by decide +kernel
theorem dX8_leavesAtMostOne_42 : decode cX8_leavesAtMostOne 42 = .ok (.invokestatic 89, 3) := by decide +kernel
theorem dX8_leavesAtMostOne_45 : decode cX8_leavesAtMostOne 45 = .ok (.ifCond .eq 7, 3) := by decide +kernel
theorem dX8_leavesAtMostOne_48 : decode cX8_leavesAtMostOne 48 = .ok (.iconst 1, 1) := by decide +kernel
theorem dX8_leavesAtMostOne_49 : decode cX8_leavesAtMostOne 49 = .ok (.goto 4, 3) := by decide +kernel
theorem dX8_leavesAtMostOne_52 : decode cX8_leavesAtMostOne 52 = .ok (.iconst 0, 1) := by decide +kernel
theorem dX8_leavesAtMostOne_53 : decode cX8_leavesAtMostOne 53 = .ok (.iadd, 1) := by decide +kernel
theorem dX8_leavesAtMostOne_54 : decode cX8_leavesAtMostOne 54 = .ok (.istore 5, 2) := by decide +kernel
theorem dX8_leavesAtMostOne_56 : decode cX8_leavesAtMostOne 56 = .ok (.iload 6, 2) := by decide +kernel
theorem dX8_leavesAtMostOne_58 : decode cX8_leavesAtMostOne 58 = .ok (.aload_n 0, 1) := by decide +kernel
theorem dX8_leavesAtMostOne_59 : decode cX8_leavesAtMostOne 59 = .ok (.getfield 15, 3) := by decide +kernel
theorem dX8_leavesAtMostOne_62 : decode cX8_leavesAtMostOne 62 = .ok (.iload_n 3, 1) := by decide +kernel
theorem dX8_leavesAtMostOne_63 : decode cX8_leavesAtMostOne 63 = .ok (.iaload, 1) := by decide +kernel
theorem dX8_leavesAtMostOne_64 : decode cX8_leavesAtMostOne 64 = .ok (.aload_n 1, 1) := by decide +kernel
theorem dX8_leavesAtMostOne_65 : decode cX8_leavesAtMostOne 65 = .ok (.iload 7, 2) := by decide +kernel
theorem dX8_leavesAtMostOne_67 : decode cX8_leavesAtMostOne 67 = .ok (.iaload, 1) := by decide +kernel
theorem dX8_leavesAtMostOne_68 : decode cX8_leavesAtMostOne 68 = .ok (.iload_n 3, 1) := by decide +kernel
theorem dX8_leavesAtMostOne_69 : decode cX8_leavesAtMostOne 69 = .ok (.iload 4, 2) := by decide +kernel
theorem dX8_leavesAtMostOne_71 : decode cX8_leavesAtMostOne 71 = .ok (.invokestatic 89, 3) := by decide +kernel
theorem dX8_leavesAtMostOne_74 : decode cX8_leavesAtMostOne 74 = .ok (.ifCond .eq 7, 3) := by decide +kernel
theorem dX8_leavesAtMostOne_77 : decode cX8_leavesAtMostOne 77 = .ok (.iconst 1, 1) := by decide +kernel
theorem dX8_leavesAtMostOne_78 : decode cX8_leavesAtMostOne 78 = .ok (.goto 4, 3) := by decide +kernel
theorem dX8_leavesAtMostOne_81 : decode cX8_leavesAtMostOne 81 = .ok (.iconst 0, 1) := by decide +kernel
theorem dX8_leavesAtMostOne_82 : decode cX8_leavesAtMostOne 82 = .ok (.iadd, 1) := by decide +kernel
theorem dX8_leavesAtMostOne_83 : decode cX8_leavesAtMostOne 83 = .ok (.istore 6, 2) := by decide +kernel
theorem dX8_leavesAtMostOne_85 : decode cX8_leavesAtMostOne 85 = .ok (.iinc 7 1, 3) := by decide +kernel
theorem dX8_leavesAtMostOne_88 : decode cX8_leavesAtMostOne 88 = .ok (.goto (-79), 3) := by decide +kernel
theorem dX8_leavesAtMostOne_91 : decode cX8_leavesAtMostOne 91 = .ok (.iload 5, 2) := by decide +kernel
theorem dX8_leavesAtMostOne_93 : decode cX8_leavesAtMostOne 93 = .ok (.iconst 1, 1) := by decide +kernel
theorem dX8_leavesAtMostOne_94 : decode cX8_leavesAtMostOne 94 = .ok (.if_icmp .gt 13, 3) := by decide +kernel
theorem dX8_leavesAtMostOne_97 : decode cX8_leavesAtMostOne 97 = .ok (.iload 6, 2) := by decide +kernel
theorem dX8_leavesAtMostOne_99 : decode cX8_leavesAtMostOne 99 = .ok (.iconst 1, 1) := by decide +kernel
theorem dX8_leavesAtMostOne_100 : decode cX8_leavesAtMostOne 100 = .ok (.if_icmp .gt 7, 3) := by decide +kernel
theorem dX8_leavesAtMostOne_103 : decode cX8_leavesAtMostOne 103 = .ok (.iconst 1, 1) := by decide +kernel
theorem dX8_leavesAtMostOne_104 : decode cX8_leavesAtMostOne 104 = .ok (.goto 4, 3) := by decide +kernel
theorem dX8_leavesAtMostOne_107 : decode cX8_leavesAtMostOne 107 = .ok (.iconst 0, 1) := by decide +kernel
theorem dX8_leavesAtMostOne_108 : decode cX8_leavesAtMostOne 108 = .ok (.ireturn, 1) := by decide +kernel
theorem dX9_init_0 : decode cX9_init 0 = .ok (.aload_n 0, 1) := by decide +kernel
theorem dX9_init_1 : decode cX9_init 1 = .ok (.invokespecial 3, 3) := by decide +kernel
theorem dX9_init_4 : decode cX9_init 4 = .ok (.aload_n 0, 1) := by decide +kernel
theorem dX9_init_5 : decode cX9_init 5 = .ok (.bipush 30, 2) := by decide +kernel
theorem dX9_init_7 : decode cX9_init 7 = .ok (.newarray .int, 2) := by decide +kernel
theorem dX9_init_9 : decode cX9_init 9 = .ok (.putfield 9, 3) := by decide +kernel
theorem dX9_init_12 : decode cX9_init 12 = .ok (.return_, 1) := by decide +kernel
theorem dX9_sound_0 : decode cX9_sound 0 = .ok (.aload_n 0, 1) := by decide +kernel
theorem dX9_sound_1 : decode cX9_sound 1 = .ok (.iconst 0, 1) := by decide +kernel
theorem dX9_sound_2 : decode cX9_sound 2 = .ok (.putfield 15, 3) := by decide +kernel
theorem dX9_sound_5 : decode cX9_sound 5 = .ok (.aload_n 0, 1) := by decide +kernel
theorem dX9_sound_6 : decode cX9_sound 6 = .ok (.iconst 0, 1) := by decide +kernel
theorem dX9_sound_7 : decode cX9_sound 7 = .ok (.putfield 19, 3) := by decide +kernel
theorem dX9_sound_10 : decode cX9_sound 10 = .ok (.aload_n 0, 1) := by decide +kernel
theorem dX9_sound_11 : decode cX9_sound 11 = .ok (.aload_n 1, 1) := by decide +kernel
theorem dX9_sound_12 : decode cX9_sound 12 = .ok (.getfield 23, 3) := by decide +kernel
theorem dX9_sound_15 : decode cX9_sound 15 = .ok (.iload_n 2, 1) := by decide +kernel
theorem dX9_sound_16 : decode cX9_sound 16 = .ok (.iaload, 1) := by decide +kernel
theorem dX9_sound_17 : decode cX9_sound 17 = .ok (.putfield 28, 3) := by decide +kernel
theorem dX9_sound_20 : decode cX9_sound 20 = .ok (.aload_n 0, 1) := by decide +kernel
theorem dX9_sound_21 : decode cX9_sound 21 = .ok (.iload_n 2, 1) := by decide +kernel
theorem dX9_sound_22 : decode cX9_sound 22 = .ok (.putfield 31, 3) := by decide +kernel
theorem dX9_sound_25 : decode cX9_sound 25 = .ok (.aload_n 0, 1) := by decide +kernel
theorem dX9_sound_26 : decode cX9_sound 26 = .ok (.aload_n 1, 1) := by decide +kernel
theorem dX9_sound_27 : decode cX9_sound 27 = .ok (.getfield 34, 3) := by decide +kernel
theorem dX9_sound_30 : decode cX9_sound 30 = .ok (.iload_n 2, 1) := by decide +kernel
theorem dX9_sound_31 : decode cX9_sound 31 = .ok (.iaload, 1) := by decide +kernel
theorem dX9_sound_32 : decode cX9_sound 32 = .ok (.putfield 37, 3) := by decide +kernel
theorem dX9_sound_35 : decode cX9_sound 35 = .ok (.aload_n 0, 1) := by decide +kernel
theorem dX9_sound_36 : decode cX9_sound 36 = .ok (.aload_n 1, 1) := by decide +kernel
theorem dX9_sound_37 : decode cX9_sound 37 = .ok (.getfield 40, 3) := by decide +kernel
theorem dX9_sound_40 : decode cX9_sound 40 = .ok (.iload_n 2, 1) := by decide +kernel
theorem dX9_sound_41 : decode cX9_sound 41 = .ok (.iaload, 1) := by decide +kernel
theorem dX9_sound_42 : decode cX9_sound 42 = .ok (.putfield 43, 3) := by decide +kernel
theorem dX9_sound_45 : decode cX9_sound 45 = .ok (.aload_n 0, 1) := by decide +kernel
theorem dX9_sound_46 : decode cX9_sound 46 = .ok (.aload_n 0, 1) := by decide +kernel
theorem dX9_sound_47 : decode cX9_sound 47 = .ok (.getfield 28, 3) := by decide +kernel
theorem dX9_sound_50 : decode cX9_sound 50 = .ok (.iload_n 3, 1) := by decide +kernel
theorem dX9_sound_51 : decode cX9_sound 51 = .ok (.iload 4, 2) := by decide +kernel
theorem dX9_sound_53 : decode cX9_sound 53 = .ok (.iconst 0, 1) := by decide +kernel
theorem dX9_sound_54 : decode cX9_sound 54 = .ok (.invokevirtual 46, 3) := by decide +kernel
theorem dX9_sound_57 : decode cX9_sound 57 = .ok (.ireturn, 1) := by decide +kernel
theorem dX9_perform_0 : decode cX9_perform 0 = .ok (.aload_n 0, 1) := by decide +kernel
theorem dX9_perform_1 : decode cX9_perform 1 = .ok (.getfield 19, 3) := by decide +kernel
theorem dX9_perform_4 : decode cX9_perform 4 = .ok (.ifCond .ne 10, 3) := by decide +kernel
theorem dX9_perform_7 : decode cX9_perform 7 = .ok (.iload 4, 2) := by decide +kernel
theorem dX9_perform_9 : decode cX9_perform 9 = .ok (.bipush 40, 2) := by decide +kernel
theorem dX9_perform_11 : decode cX9_perform 11 = .ok (.if_icmp .le 5, 3) := by decide +kernel
theorem dX9_perform_14 : decode cX9_perform 14 = .ok (.iconst 0, 1) := by decide +kernel
theorem dX9_perform_15 : decode cX9_perform 15 = .ok (.ireturn, 1) := by decide +kernel
theorem dX9_perform_16 : decode cX9_perform 16 = .ok (.iload_n 1, 1) := by decide +kernel
theorem dX9_perform_17 : decode cX9_perform 17 = .ok (.istore 5, 2) := by decide +kernel
theorem dX9_perform_19 : decode cX9_perform 19 = .ok (.iconst 0, 1) := by decide +kernel
theorem dX9_perform_20 : decode cX9_perform 20 = .ok (.istore 6, 2) := by decide +kernel
theorem dX9_perform_22 : decode cX9_perform 22 = .ok (.iload 6, 2) := by decide +kernel
theorem dX9_perform_24 : decode cX9_perform 24 = .ok (.getstatic 50, 3) := by decide +kernel
theorem dX9_perform_27 : decode cX9_perform 27 = .ok (.arraylength, 1) := by decide +kernel
theorem dX9_perform_28 : decode cX9_perform 28 = .ok (.if_icmp .ge 39, 3) := by decide +kernel
theorem dX9_perform_31 : decode cX9_perform 31 = .ok (.getstatic 53, 3) := by decide +kernel
theorem dX9_perform_34 : decode cX9_perform 34 = .ok (.iload 5, 2) := by decide +kernel
theorem dX9_perform_36 : decode cX9_perform 36 = .ok (.iconst 4, 1) := by decide +kernel
theorem dX9_perform_37 : decode cX9_perform 37 = .ok (.imul, 1) := by decide +kernel
theorem dX9_perform_38 : decode cX9_perform 38 = .ok (.iload_n 2, 1) := by decide +kernel
theorem dX9_perform_39 : decode cX9_perform 39 = .ok (.iadd, 1) := by decide +kernel
theorem dX9_perform_40 : decode cX9_perform 40 = .ok (.iaload, 1) := by decide +kernel
theorem dX9_perform_41 : decode cX9_perform 41 = .ok (.ifCond .ne 26, 3) := by decide +kernel
theorem dX9_perform_44 : decode cX9_perform 44 = .ok (.getstatic 50, 3) := by decide +kernel
theorem dX9_perform_47 : decode cX9_perform 47 = .ok (.iload 5, 2) := by decide +kernel
theorem dX9_perform_49 : decode cX9_perform 49 = .ok (.iaload, 1) := by decide +kernel
theorem dX9_perform_50 : decode cX9_perform 50 = .ok (.ifCond .lt 17, 3) := by decide +kernel
theorem dX9_perform_53 : decode cX9_perform 53 = .ok (.getstatic 50, 3) := by decide +kernel
theorem dX9_perform_56 : decode cX9_perform 56 = .ok (.iload 5, 2) := by decide +kernel
theorem dX9_perform_58 : decode cX9_perform 58 = .ok (.iaload, 1) := by decide +kernel
theorem dX9_perform_59 : decode cX9_perform 59 = .ok (.istore 5, 2) := by decide +kernel
theorem dX9_perform_61 : decode cX9_perform 61 = .ok (.iinc 6 1, 3) := by decide +kernel
theorem dX9_perform_64 : decode cX9_perform 64 = .ok (.goto (-42), 3) := by decide +kernel
theorem dX9_perform_67 : decode cX9_perform 67 = .ok (.getstatic 53, 3) := by decide +kernel
theorem dX9_perform_70 : decode cX9_perform 70 = .ok (.iload 5, 2) := by decide +kernel
theorem dX9_perform_72 : decode cX9_perform 72 = .ok (.iconst 4, 1) := by decide +kernel
theorem dX9_perform_73 : decode cX9_perform 73 = .ok (.imul, 1) := by decide +kernel
theorem dX9_perform_74 : decode cX9_perform 74 = .ok (.iload_n 2, 1) := by decide +kernel
theorem dX9_perform_75 : decode cX9_perform 75 = .ok (.iadd, 1) := by decide +kernel
theorem dX9_perform_76 : decode cX9_perform 76 = .ok (.iaload, 1) := by decide +kernel
theorem dX9_perform_77 : decode cX9_perform 77 = .ok (.istore 6, 2) := by decide +kernel
theorem dX9_perform_79 : decode cX9_perform 79 = .ok (.aload_n 0, 1) := by decide +kernel
theorem dX9_perform_80 : decode cX9_perform 80 = .ok (.getfield 15, 3) := by decide +kernel
theorem dX9_perform_83 : decode cX9_perform 83 = .ok (.bipush 30, 2) := by decide +kernel
theorem dX9_perform_85 : decode cX9_perform 85 = .ok (.if_icmp .ge 24, 3) := by decide +kernel
theorem dX9_perform_88 : decode cX9_perform 88 = .ok (.aload_n 0, 1) := by decide +kernel
theorem dX9_perform_89 : decode cX9_perform 89 = .ok (.getfield 9, 3) := by decide +kernel
theorem dX9_perform_92 : decode cX9_perform 92 = .ok (.aload_n 0, 1) := by decide +kernel
theorem dX9_perform_93 : decode cX9_perform 93 = .ok (.getfield 15, 3) := by decide +kernel
theorem dX9_perform_96 : decode cX9_perform 96 = .ok (.iload 6, 2) := by decide +kernel
theorem dX9_perform_98 : decode cX9_perform 98 = .ok (.iastore, 1) := by decide +kernel
theorem dX9_perform_99 : decode cX9_perform 99 = .ok (.aload_n 0, 1) := by decide +kernel
theorem dX9_perform_100 : decode cX9_perform 100 = .ok (.dup, 1) := by decide +kernel
theorem dX9_perform_101 : decode cX9_perform 101 = .ok (.getfield 15, 3) := by decide +kernel
theorem dX9_perform_104 : decode cX9_perform 104 = .ok (.iconst 1, 1) := by decide +kernel
theorem dX9_perform_105 : decode cX9_perform 105 = .ok (.iadd, 1) := by decide +kernel
theorem dX9_perform_106 : decode cX9_perform 106 = .ok (.putfield 15, 3) := by decide +kernel
theorem dX9_perform_109 : decode cX9_perform 109 = .ok (.iload 5, 2) := by decide +kernel
theorem dX9_perform_111 : decode cX9_perform 111 = .ok (.ifCond .ne 17, 3) := by decide +kernel
theorem dX9_perform_114 : decode cX9_perform 114 = .ok (.aload_n 0, 1) := by decide +kernel
theorem dX9_perform_115 : decode cX9_perform 115 = .ok (.iload 6, 2) := by decide +kernel
theorem dX9_perform_117 : decode cX9_perform 117 = .ok (.iload_n 3, 1) := by decide +kernel
theorem dX9_perform_118 : decode cX9_perform 118 = .ok (.iload 4, 2) := by decide +kernel
theorem dX9_perform_120 : decode cX9_perform 120 = .ok (.iconst 1, 1) := by decide +kernel
theorem dX9_perform_121 : decode cX9_perform 121 = .ok (.iadd, 1) := by decide +kernel
theorem dX9_perform_122 : decode cX9_perform 122 = .ok (.invokevirtual 56, 3) := by decide +kernel
theorem dX9_perform_125 : decode cX9_perform 125 = .ok (.goto 20, 3) := by decide +kernel
theorem dX9_perform_128 : decode cX9_perform 128 = .ok (.aload_n 0, 1) := by decide +kernel
theorem dX9_perform_129 : decode cX9_perform 129 = .ok (.iload 6, 2) := by decide +kernel
theorem dX9_perform_131 : decode cX9_perform 131 = .ok (.getstatic 50, 3) := by decide +kernel
theorem dX9_perform_134 : decode cX9_perform 134 = .ok (.iload 5, 2) := by decide +kernel
theorem dX9_perform_136 : decode cX9_perform 136 = .ok (.iaload, 1) := by decide +kernel
theorem dX9_perform_137 : decode cX9_perform 137 = .ok (.iload_n 3, 1) := by decide +kernel
theorem dX9_perform_138 : decode cX9_perform 138 = .ok (.iload 4, 2) := by decide +kernel
theorem dX9_perform_140 : decode cX9_perform 140 = .ok (.iconst 1, 1) := by decide +kernel
theorem dX9_perform_141 : decode cX9_perform 141 = .ok (.iadd, 1) := by decide +kernel
theorem dX9_perform_142 : decode cX9_perform 142 = .ok (.invokevirtual 60, 3) := by decide +kernel
theorem dX9_perform_145 : decode cX9_perform 145 = .ok (.ireturn, 1) := by decide +kernel
theorem dX9_runHighest_0 : decode cX9_runHighest 0 = .ok (.iload_n 1, 1) := by decide +kernel
theorem dX9_runHighest_1 : decode cX9_runHighest 1 = .ok (.tableswitch 65 10 12 #[27, 34, 48], 27) := by decide +kernel
theorem dX9_runHighest_28 : decode cX9_runHighest 28 = .ok (.iload_n 2, 1) := by decide +kernel
theorem dX9_runHighest_29 : decode cX9_runHighest 29 = .ok (.aload_n 0, 1) := by decide +kernel
theorem dX9_runHighest_30 : decode cX9_runHighest 30 = .ok (.getfield 43, 3) := by decide +kernel
theorem dX9_runHighest_33 : decode cX9_runHighest 33 = .ok (.iadd, 1) := by decide +kernel
theorem dX9_runHighest_34 : decode cX9_runHighest 34 = .ok (.ireturn, 1) := by decide +kernel
theorem dX9_runHighest_35 : decode cX9_runHighest 35 = .ok (.aload_n 0, 1) := by decide +kernel
theorem dX9_runHighest_36 : decode cX9_runHighest 36 = .ok (.aload_n 0, 1) := by decide +kernel
theorem dX9_runHighest_37 : decode cX9_runHighest 37 = .ok (.getfield 28, 3) := by decide +kernel
theorem dX9_runHighest_40 : decode cX9_runHighest 40 = .ok (.iconst 0, 1) := by decide +kernel
theorem dX9_runHighest_41 : decode cX9_runHighest 41 = .ok (.iload_n 2, 1) := by decide +kernel
theorem dX9_runHighest_42 : decode cX9_runHighest 42 = .ok (.iload_n 3, 1) := by decide +kernel
theorem dX9_runHighest_43 : decode cX9_runHighest 43 = .ok (.invokevirtual 46, 3) := by decide +kernel
theorem dX9_runHighest_46 : decode cX9_runHighest 46 = .ok (.iconst 3, 1) := by decide +kernel
theorem dX9_runHighest_47 : decode cX9_runHighest 47 = .ok (.imul, 1) := by decide +kernel
theorem dX9_runHighest_48 : decode cX9_runHighest 48 = .ok (.ireturn, 1) := by decide +kernel
theorem dX9_runHighest_49 : decode cX9_runHighest 49 = .ok (.aload_n 0, 1) := by decide +kernel
theorem dX9_runHighest_50 : decode cX9_runHighest 50 = .ok (.aload_n 0, 1) := by decide +kernel
theorem dX9_runHighest_51 : decode cX9_runHighest 51 = .ok (.getfield 28, 3) := by decide +kernel
theorem dX9_runHighest_54 : decode cX9_runHighest 54 = .ok (.iconst 1, 1) := by decide +kernel
theorem dX9_runHighest_55 : decode cX9_runHighest 55 = .ok (.iload_n 2, 1) := by decide +kernel
theorem dX9_runHighest_56 : decode cX9_runHighest 56 = .ok (.iload_n 3, 1) := by decide +kernel
theorem dX9_runHighest_57 : decode cX9_runHighest 57 = .ok (.invokevirtual 46, 3) := by decide +kernel
theorem dX9_runHighest_60 : decode cX9_runHighest 60 = .ok (.aload_n 0, 1) := by decide +kernel
theorem dX9_runHighest_61 : decode cX9_runHighest 61 = .ok (.getfield 37, 3) := by decide +kernel
theorem dX9_runHighest_64 : decode cX9_runHighest 64 = .ok (.isub, 1) := by decide +kernel
theorem dX9_runHighest_65 : decode cX9_runHighest 65 = .ok (.ireturn, 1) := by decide +kernel
theorem dX9_runHighest_66 : decode cX9_runHighest 66 = .ok (.aload_n 0, 1) := by decide +kernel
theorem dX9_runHighest_67 : decode cX9_runHighest 67 = .ok (.iload_n 2, 1) := by decide +kernel
theorem dX9_runHighest_68 : decode cX9_runHighest 68 = .ok (.invokevirtual 63, 3) := by decide +kernel
theorem dX9_runHighest_71 : decode cX9_runHighest 71 = .ok (.ireturn, 1) := by decide +kernel
theorem dX9_shareOut_0 : decode cX9_shareOut 0 = .ok (.aload_n 0, 1) := by decide +kernel
theorem dX9_shareOut_1 : decode cX9_shareOut 1 = .ok (.getfield 37, 3) := by decide +kernel
theorem dX9_shareOut_4 : decode cX9_shareOut 4 = .ok (.aload_n 0, 1) := by decide +kernel
theorem dX9_shareOut_5 : decode cX9_shareOut 5 = .ok (.getfield 31, 3) := by decide +kernel
theorem dX9_shareOut_8 : decode cX9_shareOut 8 = .ok (.isub, 1) := by decide +kernel
theorem dX9_shareOut_9 : decode cX9_shareOut 9 = .ok (.istore_n 2, 1) := by decide +kernel
theorem dX9_shareOut_10 : decode cX9_shareOut 10 = .ok (.iload_n 2, 1) := by decide +kernel
theorem dX9_shareOut_11 : decode cX9_shareOut 11 = .ok (.ifCond .ne 10, 3) := by decide +kernel
theorem dX9_shareOut_14 : decode cX9_shareOut 14 = .ok (.aload_n 0, 1) := by decide +kernel
theorem dX9_shareOut_15 : decode cX9_shareOut 15 = .ok (.iconst 1, 1) := by decide +kernel
theorem dX9_shareOut_16 : decode cX9_shareOut 16 = .ok (.putfield 19, 3) := by decide +kernel
theorem dX9_shareOut_19 : decode cX9_shareOut 19 = .ok (.iconst 0, 1) := by decide +kernel
theorem dX9_shareOut_20 : decode cX9_shareOut 20 = .ok (.ireturn, 1) := by decide +kernel
theorem dX9_shareOut_21 : decode cX9_shareOut 21 = .ok (.iload_n 1, 1) := by decide +kernel
theorem dX9_shareOut_22 : decode cX9_shareOut 22 = .ok (.iload_n 2, 1) := by decide +kernel
theorem dX9_shareOut_23 : decode cX9_shareOut 23 = .ok (.idiv, 1) := by decide +kernel
theorem dX9_shareOut_24 : decode cX9_shareOut 24 = .ok (.ireturn, 1) := by decide +kernel
theorem dX9_run_0 : decode cX9_run 0 = .ok (.iload_n 1, 1) := by decide +kernel
theorem dX9_run_1 : decode cX9_run 1 = .ok (.lookupswitch 238 #[(20, 83), (21, 95), (30, 110), (31, 122), (40, 148), (41, 160), (50, 183), (51, 195), (61, 215)], 83) := by decide +kernel
theorem dX9_run_84 : decode cX9_run 84 = .ok (.aload_n 0, 1) := by decide +kernel
theorem dX9_run_85 : decode cX9_run 85 = .ok (.iload_n 2, 1) := by decide +kernel
theorem dX9_run_86 : decode cX9_run 86 = .ok (.iconst 0, 1) := by decide +kernel
theorem dX9_run_87 : decode cX9_run 87 = .ok (.iload_n 3, 1) := by decide +kernel
theorem dX9_run_88 : decode cX9_run 88 = .ok (.iload 4, 2) := by decide +kernel
theorem dX9_run_90 : decode cX9_run 90 = .ok (.invokevirtual 46, 3) := by decide +kernel
theorem dX9_run_93 : decode cX9_run 93 = .ok (.iconst 1, 1) := by decide +kernel
theorem dX9_run_94 : decode cX9_run 94 = .ok (.iadd, 1) := by decide +kernel
theorem dX9_run_95 : decode cX9_run 95 = .ok (.ireturn, 1) := by decide +kernel
theorem dX9_run_96 : decode cX9_run 96 = .ok (.aload_n 0, 1) := by decide +kernel
theorem dX9_run_97 : decode cX9_run 97 = .ok (.iload_n 2, 1) := by decide +kernel
theorem dX9_run_98 : decode cX9_run 98 = .ok (.iconst 2, 1) := by decide +kernel
theorem dX9_run_99 : decode cX9_run 99 = .ok (.iload_n 3, 1) := by decide +kernel
theorem dX9_run_100 : decode cX9_run 100 = .ok (.iload 4, 2) := by decide +kernel
theorem dX9_run_102 : decode cX9_run 102 = .ok (.invokevirtual 46, 3) := by decide +kernel
theorem dX9_run_105 : decode cX9_run 105 = .ok (.aload_n 0, 1) := by decide +kernel
theorem dX9_run_106 : decode cX9_run 106 = .ok (.getfield 37, 3) := by decide +kernel
theorem dX9_run_109 : decode cX9_run 109 = .ok (.ixor, 1) := by decide +kernel
theorem dX9_run_110 : decode cX9_run 110 = .ok (.ireturn, 1) := by decide +kernel
theorem dX9_run_111 : decode cX9_run 111 = .ok (.iconst 0, 1) := by decide +kernel
theorem dX9_run_112 : decode cX9_run 112 = .ok (.aload_n 0, 1) := by decide +kernel
theorem dX9_run_113 : decode cX9_run 113 = .ok (.iload_n 2, 1) := by decide +kernel
theorem dX9_run_114 : decode cX9_run 114 = .ok (.iconst 1, 1) := by decide +kernel
theorem dX9_run_115 : decode cX9_run 115 = .ok (.iload_n 3, 1) := by decide +kernel
theorem dX9_run_116 : decode cX9_run 116 = .ok (.iload 4, 2) := by decide +kernel
theorem dX9_run_118 : decode cX9_run 118 = .ok (.invokevirtual 46, 3) := by decide +kernel
theorem dX9_run_121 : decode cX9_run 121 = .ok (.isub, 1) := by decide +kernel
theorem dX9_run_122 : decode cX9_run 122 = .ok (.ireturn, 1) := by decide +kernel
theorem dX9_run_123 : decode cX9_run 123 = .ok (.aload_n 0, 1) := by decide +kernel
theorem dX9_run_124 : decode cX9_run 124 = .ok (.iload_n 2, 1) := by decide +kernel
theorem dX9_run_125 : decode cX9_run 125 = .ok (.iconst 3, 1) := by decide +kernel
theorem dX9_run_126 : decode cX9_run 126 = .ok (.iload_n 3, 1) := by decide +kernel
theorem dX9_run_127 : decode cX9_run 127 = .ok (.iload 4, 2) := by decide +kernel
theorem dX9_run_129 : decode cX9_run 129 = .ok (.invokevirtual 46, 3) := by decide +kernel
theorem dX9_run_132 : decode cX9_run 132 = .ok (.aload_n 0, 1) := by decide +kernel
theorem dX9_run_133 : decode cX9_run 133 = .ok (.aload_n 0, 1) := by decide +kernel
theorem dX9_run_134 : decode cX9_run 134 = .ok (.getfield 28, 3) := by decide +kernel
theorem dX9_run_137 : decode cX9_run 137 = .ok (.iconst 0, 1) := by decide +kernel
theorem dX9_run_138 : decode cX9_run 138 = .ok (.aload_n 0, 1) := by decide +kernel
theorem dX9_run_139 : decode cX9_run 139 = .ok (.getfield 31, 3) := by decide +kernel
theorem dX9_run_142 : decode cX9_run 142 = .ok (.iload 4, 2) := by decide +kernel
theorem dX9_run_144 : decode cX9_run 144 = .ok (.invokevirtual 46, 3) := by decide +kernel
theorem dX9_run_147 : decode cX9_run 147 = .ok (.iadd, 1) := by decide +kernel
theorem dX9_run_148 : decode cX9_run 148 = .ok (.ireturn, 1) := by decide +kernel
theorem dX9_run_149 : decode cX9_run 149 = .ok (.aload_n 0, 1) := by decide +kernel
theorem dX9_run_150 : decode cX9_run 150 = .ok (.iload_n 2, 1) := by decide +kernel
theorem dX9_run_151 : decode cX9_run 151 = .ok (.iconst 0, 1) := by decide +kernel
theorem dX9_run_152 : decode cX9_run 152 = .ok (.iload_n 3, 1) := by decide +kernel
theorem dX9_run_153 : decode cX9_run 153 = .ok (.iconst 2, 1) := by decide +kernel
theorem dX9_run_154 : decode cX9_run 154 = .ok (.idiv, 1) := by decide +kernel
theorem dX9_run_155 : decode cX9_run 155 = .ok (.iload 4, 2) := by decide +kernel
theorem dX9_run_157 : decode cX9_run 157 = .ok (.invokevirtual 46, 3) := by decide +kernel
theorem dX9_run_160 : decode cX9_run 160 = .ok (.ireturn, 1) := by decide +kernel
theorem dX9_run_161 : decode cX9_run 161 = .ok (.aload_n 0, 1) := by decide +kernel
theorem dX9_run_162 : decode cX9_run 162 = .ok (.iload_n 2, 1) := by decide +kernel
theorem dX9_run_163 : decode cX9_run 163 = .ok (.iconst 2, 1) := by decide +kernel
theorem dX9_run_164 : decode cX9_run 164 = .ok (.iload_n 3, 1) := by decide +kernel
theorem dX9_run_165 : decode cX9_run 165 = .ok (.iload 4, 2) := by decide +kernel
theorem dX9_run_167 : decode cX9_run 167 = .ok (.invokevirtual 46, 3) := by decide +kernel
theorem dX9_run_170 : decode cX9_run 170 = .ok (.aload_n 0, 1) := by decide +kernel
theorem dX9_run_171 : decode cX9_run 171 = .ok (.aload_n 0, 1) := by decide +kernel
theorem dX9_run_172 : decode cX9_run 172 = .ok (.getfield 28, 3) := by decide +kernel
theorem dX9_run_175 : decode cX9_run 175 = .ok (.iconst 1, 1) := by decide +kernel
theorem dX9_run_176 : decode cX9_run 176 = .ok (.iconst 1, 1) := by decide +kernel
theorem dX9_run_177 : decode cX9_run 177 = .ok (.iload 4, 2) := by decide +kernel
theorem dX9_run_179 : decode cX9_run 179 = .ok (.invokevirtual 46, 3) := by decide +kernel
theorem dX9_run_182 : decode cX9_run 182 = .ok (.iadd, 1) := by decide +kernel
theorem dX9_run_183 : decode cX9_run 183 = .ok (.ireturn, 1) := by decide +kernel
theorem dX9_run_184 : decode cX9_run 184 = .ok (.aload_n 0, 1) := by decide +kernel
theorem dX9_run_185 : decode cX9_run 185 = .ok (.iload_n 2, 1) := by decide +kernel
theorem dX9_run_186 : decode cX9_run 186 = .ok (.iconst 1, 1) := by decide +kernel
theorem dX9_run_187 : decode cX9_run 187 = .ok (.iload_n 3, 1) := by decide +kernel
theorem dX9_run_188 : decode cX9_run 188 = .ok (.iconst 1, 1) := by decide +kernel
theorem dX9_run_189 : decode cX9_run 189 = .ok (.iadd, 1) := by decide +kernel
theorem dX9_run_190 : decode cX9_run 190 = .ok (.iload 4, 2) := by decide +kernel
theorem dX9_run_192 : decode cX9_run 192 = .ok (.invokevirtual 46, 3) := by decide +kernel
theorem dX9_run_195 : decode cX9_run 195 = .ok (.ireturn, 1) := by decide +kernel
theorem dX9_run_196 : decode cX9_run 196 = .ok (.aload_n 0, 1) := by decide +kernel
theorem dX9_run_197 : decode cX9_run 197 = .ok (.iload_n 2, 1) := by decide +kernel
theorem dX9_run_198 : decode cX9_run 198 = .ok (.iconst 2, 1) := by decide +kernel
theorem dX9_run_199 : decode cX9_run 199 = .ok (.iload_n 3, 1) := by decide +kernel
theorem dX9_run_200 : decode cX9_run 200 = .ok (.iload 4, 2) := by decide +kernel
theorem dX9_run_202 : decode cX9_run 202 = .ok (.invokevirtual 46, 3) := by decide +kernel
theorem dX9_run_205 : decode cX9_run 205 = .ok (.aload_n 0, 1) := by decide +kernel
theorem dX9_run_206 : decode cX9_run 206 = .ok (.iload_n 2, 1) := by decide +kernel
theorem dX9_run_207 : decode cX9_run 207 = .ok (.iconst 1, 1) := by decide +kernel
theorem dX9_run_208 : decode cX9_run 208 = .ok (.iconst 0, 1) := by decide +kernel
theorem dX9_run_209 : decode cX9_run 209 = .ok (.iload 4, 2) := by decide +kernel
theorem dX9_run_211 : decode cX9_run 211 = .ok (.invokevirtual 46, 3) := by decide +kernel
theorem dX9_run_214 : decode cX9_run 214 = .ok (.isub, 1) := by decide +kernel
theorem dX9_run_215 : decode cX9_run 215 = .ok (.ireturn, 1) := by decide +kernel
theorem dX9_run_216 : decode cX9_run 216 = .ok (.aload_n 0, 1) := by decide +kernel
theorem dX9_run_217 : decode cX9_run 217 = .ok (.aload_n 0, 1) := by decide +kernel
theorem dX9_run_218 : decode cX9_run 218 = .ok (.getfield 28, 3) := by decide +kernel
theorem dX9_run_221 : decode cX9_run 221 = .ok (.iconst 2, 1) := by decide +kernel
theorem dX9_run_222 : decode cX9_run 222 = .ok (.iload_n 3, 1) := by decide +kernel
theorem dX9_run_223 : decode cX9_run 223 = .ok (.iload 4, 2) := by decide +kernel
theorem dX9_run_225 : decode cX9_run 225 = .ok (.invokevirtual 46, 3) := by decide +kernel
theorem dX9_run_228 : decode cX9_run 228 = .ok (.aload_n 0, 1) := by decide +kernel
theorem dX9_run_229 : decode cX9_run 229 = .ok (.iload_n 2, 1) := by decide +kernel
theorem dX9_run_230 : decode cX9_run 230 = .ok (.iconst 3, 1) := by decide +kernel
theorem dX9_run_231 : decode cX9_run 231 = .ok (.iload_n 3, 1) := by decide +kernel
theorem dX9_run_232 : decode cX9_run 232 = .ok (.iload 4, 2) := by decide +kernel
theorem dX9_run_234 : decode cX9_run 234 = .ok (.invokevirtual 46, 3) := by decide +kernel
theorem dX9_run_237 : decode cX9_run 237 = .ok (.isub, 1) := by decide +kernel
theorem dX9_run_238 : decode cX9_run 238 = .ok (.ireturn, 1) := by decide +kernel
theorem dX9_run_239 : decode cX9_run 239 = .ok (.iconst 0, 1) := by decide +kernel
theorem dX9_run_240 : decode cX9_run 240 = .ok (.ireturn, 1) := by decide +kernel
theorem dX10_init_0 : decode cX10_init 0 = .ok (.aload_n 0, 1) := by decide +kernel
theorem dX10_init_1 : decode cX10_init 1 = .ok (.invokespecial 3, 3) := by decide +kernel
theorem dX10_init_4 : decode cX10_init 4 = .ok (.aload_n 0, 1) := by decide +kernel
theorem dX10_init_5 : decode cX10_init 5 = .ok (.new 9, 3) := by decide +kernel
theorem dX10_init_8 : decode cX10_init 8 = .ok (.dup, 1) := by decide +kernel
theorem dX10_init_9 : decode cX10_init 9 = .ok (.invokespecial 11, 3) := by decide +kernel
theorem dX10_init_12 : decode cX10_init 12 = .ok (.putfield 12, 3) := by decide +kernel
theorem dX10_init_15 : decode cX10_init 15 = .ok (.aload_n 0, 1) := by decide +kernel
theorem dX10_init_16 : decode cX10_init 16 = .ok (.new 9, 3) := by decide +kernel
theorem dX10_init_19 : decode cX10_init 19 = .ok (.dup, 1) := by decide +kernel
theorem dX10_init_20 : decode cX10_init 20 = .ok (.invokespecial 11, 3) := by decide +kernel
theorem dX10_init_23 : decode cX10_init 23 = .ok (.putfield 16, 3) := by decide +kernel
theorem dX10_init_26 : decode cX10_init 26 = .ok (.aload_n 0, 1) := by decide +kernel
theorem dX10_init_27 : decode cX10_init 27 = .ok (.new 9, 3) := by decide +kernel
theorem dX10_init_30 : decode cX10_init 30 = .ok (.dup, 1) := by decide +kernel
theorem dX10_init_31 : decode cX10_init 31 = .ok (.invokespecial 11, 3) := by decide +kernel
theorem dX10_init_34 : decode cX10_init 34 = .ok (.putfield 19, 3) := by decide +kernel
theorem dX10_init_37 : decode cX10_init 37 = .ok (.aload_n 0, 1) := by decide +kernel
theorem dX10_init_38 : decode cX10_init 38 = .ok (.new 22, 3) := by decide +kernel
theorem dX10_init_41 : decode cX10_init 41 = .ok (.dup, 1) := by decide +kernel
theorem dX10_init_42 : decode cX10_init 42 = .ok (.aload_n 0, 1) := by decide +kernel
theorem dX10_init_43 : decode cX10_init 43 = .ok (.getfield 19, 3) := by decide +kernel
theorem dX10_init_46 : decode cX10_init 46 = .ok (.invokespecial 24, 3) := by decide +kernel
theorem dX10_init_49 : decode cX10_init 49 = .ok (.putfield 27, 3) := by decide +kernel
theorem dX10_init_52 : decode cX10_init 52 = .ok (.aload_n 0, 1) := by decide +kernel
theorem dX10_init_53 : decode cX10_init 53 = .ok (.new 31, 3) := by decide +kernel
theorem dX10_init_56 : decode cX10_init 56 = .ok (.dup, 1) := by decide +kernel
theorem dX10_init_57 : decode cX10_init 57 = .ok (.aload_n 0, 1) := by decide +kernel
theorem dX10_init_58 : decode cX10_init 58 = .ok (.getfield 12, 3) := by decide +kernel
theorem dX10_init_61 : decode cX10_init 61 = .ok (.invokespecial 33, 3) := by decide +kernel
theorem dX10_init_64 : decode cX10_init 64 = .ok (.putfield 34, 3) := by decide +kernel
theorem dX10_init_67 : decode cX10_init 67 = .ok (.aload_n 0, 1) := by decide +kernel
theorem dX10_init_68 : decode cX10_init 68 = .ok (.new 38, 3) := by decide +kernel
theorem dX10_init_71 : decode cX10_init 71 = .ok (.dup, 1) := by decide +kernel
theorem dX10_init_72 : decode cX10_init 72 = .ok (.aload_n 0, 1) := by decide +kernel
theorem dX10_init_73 : decode cX10_init 73 = .ok (.getfield 12, 3) := by decide +kernel
theorem dX10_init_76 : decode cX10_init 76 = .ok (.invokespecial 40, 3) := by decide +kernel
theorem dX10_init_79 : decode cX10_init 79 = .ok (.putfield 41, 3) := by decide +kernel
theorem dX10_init_82 : decode cX10_init 82 = .ok (.aload_n 0, 1) := by decide +kernel
theorem dX10_init_83 : decode cX10_init 83 = .ok (.new 45, 3) := by decide +kernel
theorem dX10_init_86 : decode cX10_init 86 = .ok (.dup, 1) := by decide +kernel
theorem dX10_init_87 : decode cX10_init 87 = .ok (.aload_n 0, 1) := by decide +kernel
theorem dX10_init_88 : decode cX10_init 88 = .ok (.getfield 12, 3) := by decide +kernel
theorem dX10_init_91 : decode cX10_init 91 = .ok (.aload_n 0, 1) := by decide +kernel
theorem dX10_init_92 : decode cX10_init 92 = .ok (.getfield 34, 3) := by decide +kernel
theorem dX10_init_95 : decode cX10_init 95 = .ok (.invokespecial 47, 3) := by decide +kernel
theorem dX10_init_98 : decode cX10_init 98 = .ok (.putfield 50, 3) := by decide +kernel
theorem dX10_init_101 : decode cX10_init 101 = .ok (.aload_n 0, 1) := by decide +kernel
theorem dX10_init_102 : decode cX10_init 102 = .ok (.new 54, 3) := by decide +kernel
theorem dX10_init_105 : decode cX10_init 105 = .ok (.dup, 1) := by decide +kernel
theorem dX10_init_106 : decode cX10_init 106 = .ok (.aload_n 0, 1) := by decide +kernel
theorem dX10_init_107 : decode cX10_init 107 = .ok (.getfield 12, 3) := by decide +kernel
theorem dX10_init_110 : decode cX10_init 110 = .ok (.invokespecial 56, 3) := by decide +kernel
theorem dX10_init_113 : decode cX10_init 113 = .ok (.putfield 57, 3) := by decide +kernel
theorem dX10_init_116 : decode cX10_init 116 = .ok (.aload_n 0, 1) := by decide +kernel
theorem dX10_init_117 : decode cX10_init 117 = .ok (.new 61, 3) := by decide +kernel
theorem dX10_init_120 : decode cX10_init 120 = .ok (.dup, 1) := by decide +kernel
theorem dX10_init_121 : decode cX10_init 121 = .ok (.invokespecial 63, 3) := by decide +kernel
theorem dX10_init_124 : decode cX10_init 124 = .ok (.putfield 64, 3) := by decide +kernel
theorem dX10_init_127 : decode cX10_init 127 = .ok (.aload_n 0, 1) := by decide +kernel
theorem dX10_init_128 : decode cX10_init 128 = .ok (.iconst 4, 1) := by decide +kernel
theorem dX10_init_129 : decode cX10_init 129 = .ok (.anewarray 68, 3) := by decide +kernel
theorem dX10_init_132 : decode cX10_init 132 = .ok (.putfield 70, 3) := by decide +kernel
theorem dX10_init_135 : decode cX10_init 135 = .ok (.aload_n 0, 1) := by decide +kernel
theorem dX10_init_136 : decode cX10_init 136 = .ok (.bipush 7, 2) := by decide +kernel
theorem dX10_init_138 : decode cX10_init 138 = .ok (.newarray .int, 2) := by decide +kernel
theorem dX10_init_140 : decode cX10_init 140 = .ok (.putfield 74, 3) := by decide +kernel
theorem dX10_init_143 : decode cX10_init 143 = .ok (.iconst 0, 1) := by decide +kernel
theorem dX10_init_144 : decode cX10_init 144 = .ok (.istore_n 1, 1) := by decide +kernel
theorem dX10_init_145 : decode cX10_init 145 = .ok (.iload_n 1, 1) := by decide +kernel
theorem dX10_init_146 : decode cX10_init 146 = .ok (.iconst 4, 1) := by decide +kernel
theorem dX10_init_147 : decode cX10_init 147 = .ok (.if_icmp .ge 22, 3) := by decide +kernel
theorem dX10_init_150 : decode cX10_init 150 = .ok (.aload_n 0, 1) := by decide +kernel
theorem dX10_init_151 : decode cX10_init 151 = .ok (.getfield 70, 3) := by decide +kernel
theorem dX10_init_154 : decode cX10_init 154 = .ok (.iload_n 1, 1) := by decide +kernel
theorem dX10_init_155 : decode cX10_init 155 = .ok (.new 68, 3) := by decide +kernel
theorem dX10_init_158 : decode cX10_init 158 = .ok (.dup, 1) := by decide +kernel
theorem dX10_init_159 : decode cX10_init 159 = .ok (.invokespecial 78, 3) := by decide +kernel
theorem dX10_init_162 : decode cX10_init 162 = .ok (.aastore, 1) := by decide +kernel
theorem dX10_init_163 : decode cX10_init 163 = .ok (.iinc 1 1, 3) := by decide +kernel
theorem dX10_init_166 : decode cX10_init 166 = .ok (.goto (-21), 3) := by decide +kernel
theorem dX10_init_169 : decode cX10_init 169 = .ok (.return_, 1) := by decide +kernel
theorem dX10_machine_0 : decode cX10_machine 0 = .ok (.iload_n 1, 1) := by decide +kernel
theorem dX10_machine_1 : decode cX10_machine 1 = .ok (.iconst 0, 1) := by decide +kernel
theorem dX10_machine_2 : decode cX10_machine 2 = .ok (.iconst 5, 1) := by decide +kernel
theorem dX10_machine_3 : decode cX10_machine 3 = .ok (.invokestatic 79, 3) := by decide +kernel
theorem dX10_machine_6 : decode cX10_machine 6 = .ok (.ifCond .ne 23, 3) := by decide +kernel
theorem dX10_machine_9 : decode cX10_machine 9 = .ok (.iload_n 2, 1) := by decide +kernel
theorem dX10_machine_10 : decode cX10_machine 10 = .ok (.iconst 1, 1) := by decide +kernel
theorem dX10_machine_11 : decode cX10_machine 11 = .ok (.bipush 99, 2) := by decide +kernel
theorem dX10_machine_13 : decode cX10_machine 13 = .ok (.invokestatic 79, 3) := by decide +kernel
theorem dX10_machine_16 : decode cX10_machine 16 = .ok (.ifCond .ne 13, 3) := by decide +kernel
theorem dX10_machine_19 : decode cX10_machine 19 = .ok (.iload_n 3, 1) := by decide +kernel
theorem dX10_machine_20 : decode cX10_machine 20 = .ok (.iconst 1, 1) := by decide +kernel
theorem dX10_machine_21 : decode cX10_machine 21 = .ok (.bipush 9, 2) := by decide +kernel
theorem dX10_machine_23 : decode cX10_machine 23 = .ok (.invokestatic 79, 3) := by decide +kernel
theorem dX10_machine_26 : decode cX10_machine 26 = .ok (.ifCond .eq 10, 3) := by decide +kernel
theorem dX10_machine_29 : decode cX10_machine 29 = .ok (.aload_n 0, 1) := by decide +kernel
theorem dX10_machine_30 : decode cX10_machine 30 = .ok (.ldc 83, 2) := by decide +kernel
theorem dX10_machine_32 : decode cX10_machine 32 = .ok (.invokevirtual 84, 3) := by decide +kernel
theorem dX10_machine_35 : decode cX10_machine 35 = .ok (.ireturn, 1) := by decide +kernel
theorem dX10_machine_36 : decode cX10_machine 36 = .ok (.aload_n 0, 1) := by decide +kernel
theorem dX10_machine_37 : decode cX10_machine 37 = .ok (.getfield 12, 3) := by decide +kernel
theorem dX10_machine_40 : decode cX10_machine 40 = .ok (.invokevirtual 88, 3) := by decide +kernel
theorem dX10_machine_43 : decode cX10_machine 43 = .ok (.ifCond .ne 10, 3) := by decide +kernel
theorem dX10_machine_46 : decode cX10_machine 46 = .ok (.aload_n 0, 1) := by decide +kernel
theorem dX10_machine_47 : decode cX10_machine 47 = .ok (.ldc 92, 2) := by decide +kernel
theorem dX10_machine_49 : decode cX10_machine 49 = .ok (.invokevirtual 84, 3) := by decide +kernel
theorem dX10_machine_52 : decode cX10_machine 52 = .ok (.ireturn, 1) := by decide +kernel
theorem dX10_machine_53 : decode cX10_machine 53 = .ok (.aload_n 0, 1) := by decide +kernel
theorem dX10_machine_54 : decode cX10_machine 54 = .ok (.getfield 12, 3) := by decide +kernel
theorem dX10_machine_57 : decode cX10_machine 57 = .ok (.iload_n 1, 1) := by decide +kernel
theorem dX10_machine_58 : decode cX10_machine 58 = .ok (.iload_n 2, 1) := by decide +kernel
theorem dX10_machine_59 : decode cX10_machine 59 = .ok (.iload_n 3, 1) := by decide +kernel
theorem dX10_machine_60 : decode cX10_machine 60 = .ok (.invokevirtual 93, 3) := by decide +kernel
theorem dX10_machine_63 : decode cX10_machine 63 = .ok (.ireturn, 1) := by decide +kernel
theorem dX10_machineIs_0 : decode cX10_machineIs 0 = .ok (.aload_n 0, 1) := by decide +kernel
theorem dX10_machineIs_1 : decode cX10_machineIs 1 = .ok (.getfield 12, 3) := by decide +kernel
theorem dX10_machineIs_4 : decode cX10_machineIs 4 = .ok (.iload_n 1, 1) := by decide +kernel
theorem dX10_machineIs_5 : decode cX10_machineIs 5 = .ok (.invokevirtual 97, 3) := by decide +kernel
theorem dX10_machineIs_8 : decode cX10_machineIs 8 = .ok (.ifCond .eq 12, 3) := by decide +kernel
theorem dX10_machineIs_11 : decode cX10_machineIs 11 = .ok (.iload_n 2, 1) := by decide +kernel
theorem dX10_machineIs_12 : decode cX10_machineIs 12 = .ok (.iconst 0, 1) := by decide +kernel
theorem dX10_machineIs_13 : decode cX10_machineIs 13 = .ok (.iconst 5, 1) := by decide +kernel
theorem dX10_machineIs_14 : decode cX10_machineIs 14 = .ok (.invokestatic 79, 3) := by decide +kernel
theorem dX10_machineIs_17 : decode cX10_machineIs 17 = .ok (.ifCond .eq 10, 3) := by decide +kernel
theorem dX10_machineIs_20 : decode cX10_machineIs 20 = .ok (.aload_n 0, 1) := by decide +kernel
theorem dX10_machineIs_21 : decode cX10_machineIs 21 = .ok (.ldc 83, 2) := by decide +kernel
theorem dX10_machineIs_23 : decode cX10_machineIs 23 = .ok (.invokevirtual 84, 3) := by decide +kernel
theorem dX10_machineIs_26 : decode cX10_machineIs 26 = .ok (.ireturn, 1) := by decide +kernel
theorem dX10_machineIs_27 : decode cX10_machineIs 27 = .ok (.iload_n 2, 1) := by decide +kernel
theorem dX10_machineIs_28 : decode cX10_machineIs 28 = .ok (.tableswitch 85 0 4 #[36, 46, 56, 66, 76], 36) := by decide +kernel
theorem dX10_machineIs_64 : decode cX10_machineIs 64 = .ok (.aload_n 0, 1) := by decide +kernel
theorem dX10_machineIs_65 : decode cX10_machineIs 65 = .ok (.getfield 12, 3) := by decide +kernel
theorem dX10_machineIs_68 : decode cX10_machineIs 68 = .ok (.getfield 101, 3) := by decide +kernel
theorem dX10_machineIs_71 : decode cX10_machineIs 71 = .ok (.iload_n 1, 1) := by decide +kernel
theorem dX10_machineIs_72 : decode cX10_machineIs 72 = .ok (.iaload, 1) := by decide +kernel
theorem dX10_machineIs_73 : decode cX10_machineIs 73 = .ok (.ireturn, 1) := by decide +kernel
theorem dX10_machineIs_74 : decode cX10_machineIs 74 = .ok (.aload_n 0, 1) := by decide +kernel
theorem dX10_machineIs_75 : decode cX10_machineIs 75 = .ok (.getfield 12, 3) := by decide +kernel
theorem dX10_machineIs_78 : decode cX10_machineIs 78 = .ok (.getfield 104, 3) := by decide +kernel
theorem dX10_machineIs_81 : decode cX10_machineIs 81 = .ok (.iload_n 1, 1) := by decide +kernel
theorem dX10_machineIs_82 : decode cX10_machineIs 82 = .ok (.iaload, 1) := by decide +kernel
theorem dX10_machineIs_83 : decode cX10_machineIs 83 = .ok (.ireturn, 1) := by decide +kernel
theorem dX10_machineIs_84 : decode cX10_machineIs 84 = .ok (.aload_n 0, 1) := by decide +kernel
theorem dX10_machineIs_85 : decode cX10_machineIs 85 = .ok (.getfield 12, 3) := by decide +kernel
theorem dX10_machineIs_88 : decode cX10_machineIs 88 = .ok (.getfield 107, 3) := by decide +kernel
theorem dX10_machineIs_91 : decode cX10_machineIs 91 = .ok (.iload_n 1, 1) := by decide +kernel
theorem dX10_machineIs_92 : decode cX10_machineIs 92 = .ok (.iaload, 1) := by decide +kernel
theorem dX10_machineIs_93 : decode cX10_machineIs 93 = .ok (.ireturn, 1) := by decide +kernel
theorem dX10_machineIs_94 : decode cX10_machineIs 94 = .ok (.aload_n 0, 1) := by decide +kernel
theorem dX10_machineIs_95 : decode cX10_machineIs 95 = .ok (.getfield 12, 3) := by decide +kernel
theorem dX10_machineIs_98 : decode cX10_machineIs 98 = .ok (.getfield 110, 3) := by decide +kernel
theorem dX10_machineIs_101 : decode cX10_machineIs 101 = .ok (.iload_n 1, 1) := by decide +kernel
theorem dX10_machineIs_102 : decode cX10_machineIs 102 = .ok (.iaload, 1) := by decide +kernel
theorem dX10_machineIs_103 : decode cX10_machineIs 103 = .ok (.ireturn, 1) := by decide +kernel
theorem dX10_machineIs_104 : decode cX10_machineIs 104 = .ok (.aload_n 0, 1) := by decide +kernel
theorem dX10_machineIs_105 : decode cX10_machineIs 105 = .ok (.getfield 12, 3) := by decide +kernel
theorem dX10_machineIs_108 : decode cX10_machineIs 108 = .ok (.iload_n 1, 1) := by decide +kernel
theorem dX10_machineIs_109 : decode cX10_machineIs 109 = .ok (.invokevirtual 113, 3) := by decide +kernel
theorem dX10_machineIs_112 : decode cX10_machineIs 112 = .ok (.ireturn, 1) := by decide +kernel
theorem dX10_machineIs_113 : decode cX10_machineIs 113 = .ok (.aload_n 0, 1) := by decide +kernel
theorem dX10_machineIs_114 : decode cX10_machineIs 114 = .ok (.getfield 12, 3) := by decide +kernel
theorem dX10_machineIs_117 : decode cX10_machineIs 117 = .ok (.iload_n 1, 1) := by decide +kernel
theorem dX10_machineIs_118 : decode cX10_machineIs 118 = .ok (.invokevirtual 116, 3) := by decide +kernel
theorem dX10_machineIs_121 : decode cX10_machineIs 121 = .ok (.ireturn, 1) := by decide +kernel
theorem dX10_as_0 : decode cX10_as 0 = .ok (.aload_n 0, 1) := by decide +kernel
theorem dX10_as_1 : decode cX10_as 1 = .ok (.getfield 12, 3) := by decide +kernel
theorem dX10_as_4 : decode cX10_as 4 = .ok (.iload_n 1, 1) := by decide +kernel
theorem dX10_as_5 : decode cX10_as 5 = .ok (.invokevirtual 97, 3) := by decide +kernel
theorem dX10_as_8 : decode cX10_as 8 = .ok (.ifCond .eq 12, 3) := by decide +kernel
theorem dX10_as_11 : decode cX10_as 11 = .ok (.iload_n 2, 1) := by decide +kernel
theorem dX10_as_12 : decode cX10_as 12 = .ok (.iconst 0, 1) := by decide +kernel
theorem dX10_as_13 : decode cX10_as 13 = .ok (.iconst 5, 1) := by decide +kernel
theorem dX10_as_14 : decode cX10_as 14 = .ok (.invokestatic 79, 3) := by decide +kernel
theorem dX10_as_17 : decode cX10_as 17 = .ok (.ifCond .eq 10, 3) := by decide +kernel
theorem dX10_as_20 : decode cX10_as 20 = .ok (.aload_n 0, 1) := by decide +kernel
theorem dX10_as_21 : decode cX10_as 21 = .ok (.ldc 83, 2) := by decide +kernel
theorem dX10_as_23 : decode cX10_as 23 = .ok (.invokevirtual 84, 3) := by decide +kernel
theorem dX10_as_26 : decode cX10_as 26 = .ok (.ireturn, 1) := by decide +kernel
theorem dX10_as_27 : decode cX10_as 27 = .ok (.aload_n 0, 1) := by decide +kernel
theorem dX10_as_28 : decode cX10_as 28 = .ok (.getfield 12, 3) := by decide +kernel
theorem dX10_as_31 : decode cX10_as 31 = .ok (.getfield 101, 3) := by decide +kernel
theorem dX10_as_34 : decode cX10_as 34 = .ok (.iload_n 1, 1) := by decide +kernel
theorem dX10_as_35 : decode cX10_as 35 = .ok (.iaload, 1) := by decide +kernel
theorem dX10_as_36 : decode cX10_as 36 = .ok (.iload_n 2, 1) := by decide +kernel
theorem dX10_as_37 : decode cX10_as 37 = .ok (.invokestatic 119, 3) := by decide +kernel
theorem dX10_as_40 : decode cX10_as 40 = .ok (.ifCond .ne 10, 3) := by decide +kernel
theorem dX10_as_43 : decode cX10_as 43 = .ok (.aload_n 0, 1) := by decide +kernel
theorem dX10_as_44 : decode cX10_as 44 = .ok (.ldc 125, 2) := by decide +kernel
theorem dX10_as_46 : decode cX10_as 46 = .ok (.invokevirtual 84, 3) := by decide +kernel
theorem dX10_as_49 : decode cX10_as 49 = .ok (.ireturn, 1) := by decide +kernel
theorem dX10_as_50 : decode cX10_as 50 = .ok (.aload_n 0, 1) := by decide +kernel
theorem dX10_as_51 : decode cX10_as 51 = .ok (.getfield 12, 3) := by decide +kernel
theorem dX10_as_54 : decode cX10_as 54 = .ok (.getfield 104, 3) := by decide +kernel
theorem dX10_as_57 : decode cX10_as 57 = .ok (.iload_n 1, 1) := by decide +kernel
theorem dX10_as_58 : decode cX10_as 58 = .ok (.iaload, 1) := by decide +kernel
theorem dX10_as_59 : decode cX10_as 59 = .ok (.ireturn, 1) := by decide +kernel
theorem dX10_tie_0 : decode cX10_tie 0 = .ok (.aload_n 0, 1) := by decide +kernel
theorem dX10_tie_1 : decode cX10_tie 1 = .ok (.getfield 12, 3) := by decide +kernel
theorem dX10_tie_4 : decode cX10_tie 4 = .ok (.iload_n 1, 1) := by decide +kernel
theorem dX10_tie_5 : decode cX10_tie 5 = .ok (.invokevirtual 97, 3) := by decide +kernel
theorem dX10_tie_8 : decode cX10_tie 8 = .ok (.ifCond .eq 24, 3) := by decide +kernel
theorem dX10_tie_11 : decode cX10_tie 11 = .ok (.aload_n 0, 1) := by decide +kernel
theorem dX10_tie_12 : decode cX10_tie 12 = .ok (.getfield 12, 3) := by decide +kernel
theorem dX10_tie_15 : decode cX10_tie 15 = .ok (.iload_n 2, 1) := by decide +kernel
theorem dX10_tie_16 : decode cX10_tie 16 = .ok (.invokevirtual 97, 3) := by decide +kernel
theorem dX10_tie_19 : decode cX10_tie 19 = .ok (.ifCond .eq 13, 3) := by decide +kernel
theorem dX10_tie_22 : decode cX10_tie 22 = .ok (.iload_n 3, 1) := by decide +kernel
theorem dX10_tie_23 : decode cX10_tie 23 = .ok (.iconst 0, 1) := by decide +kernel
theorem dX10_tie_24 : decode cX10_tie 24 = .ok (.bipush 99, 2) := by decide +kernel
theorem dX10_tie_26 : decode cX10_tie 26 = .ok (.invokestatic 79, 3) := by decide +kernel
theorem dX10_tie_29 : decode cX10_tie 29 = .ok (.ifCond .eq 10, 3) := by decide +kernel
theorem dX10_tie_32 : decode cX10_tie 32 = .ok (.aload_n 0, 1) := by decide +kernel
theorem dX10_tie_33 : decode cX10_tie 33 = .ok (.ldc 83, 2) := by decide +kernel
theorem dX10_tie_35 : decode cX10_tie 35 = .ok (.invokevirtual 84, 3) := by decide +kernel
theorem dX10_tie_38 : decode cX10_tie 38 = .ok (.ireturn, 1) := by decide +kernel
theorem dX10_tie_39 : decode cX10_tie 39 = .ok (.iload_n 1, 1) := by decide +kernel
theorem dX10_tie_40 : decode cX10_tie 40 = .ok (.iload_n 2, 1) := by decide +kernel
theorem dX10_tie_41 : decode cX10_tie 41 = .ok (.if_icmp .ne 10, 3) := by decide +kernel
theorem dX10_tie_44 : decode cX10_tie 44 = .ok (.aload_n 0, 1) := by decide +kernel
theorem dX10_tie_45 : decode cX10_tie 45 = .ok (.ldc 126, 2) := by decide +kernel
theorem dX10_tie_47 : decode cX10_tie 47 = .ok (.invokevirtual 84, 3) := by decide +kernel
theorem dX10_tie_50 : decode cX10_tie 50 = .ok (.ireturn, 1) := by decide +kernel
theorem dX10_tie_51 : decode cX10_tie 51 = .ok (.aload_n 0, 1) := by decide +kernel
theorem dX10_tie_52 : decode cX10_tie 52 = .ok (.getfield 12, 3) := by decide +kernel
theorem dX10_tie_55 : decode cX10_tie 55 = .ok (.iload_n 1, 1) := by decide +kernel
theorem dX10_tie_56 : decode cX10_tie 56 = .ok (.iload_n 2, 1) := by decide +kernel
theorem dX10_tie_57 : decode cX10_tie 57 = .ok (.iload_n 3, 1) := by decide +kernel
theorem dX10_tie_58 : decode cX10_tie 58 = .ok (.invokevirtual 127, 3) := by decide +kernel
theorem dX10_tie_61 : decode cX10_tie 61 = .ok (.ireturn, 1) := by decide +kernel
theorem dX10_say_0 : decode cX10_say 0 = .ok (.aload_n 0, 1) := by decide +kernel
theorem dX10_say_1 : decode cX10_say 1 = .ok (.getfield 12, 3) := by decide +kernel
theorem dX10_say_4 : decode cX10_say 4 = .ok (.iload_n 1, 1) := by decide +kernel
theorem dX10_say_5 : decode cX10_say 5 = .ok (.iload_n 2, 1) := by decide +kernel
theorem dX10_say_6 : decode cX10_say 6 = .ok (.invokevirtual 130, 3) := by decide +kernel
theorem dX10_say_9 : decode cX10_say 9 = .ok (.istore 4, 2) := by decide +kernel
theorem dX10_say_11 : decode cX10_say 11 = .ok (.iload 4, 2) := by decide +kernel
theorem dX10_say_13 : decode cX10_say 13 = .ok (.ifCond .eq 10, 3) := by decide +kernel
theorem dX10_say_16 : decode cX10_say 16 = .ok (.aload_n 0, 1) := by decide +kernel
theorem dX10_say_17 : decode cX10_say 17 = .ok (.iload 4, 2) := by decide +kernel
theorem dX10_say_19 : decode cX10_say 19 = .ok (.invokevirtual 84, 3) := by decide +kernel
theorem dX10_say_22 : decode cX10_say 22 = .ok (.ireturn, 1) := by decide +kernel
theorem dX10_say_23 : decode cX10_say 23 = .ok (.aload_n 0, 1) := by decide +kernel
theorem dX10_say_24 : decode cX10_say 24 = .ok (.getfield 12, 3) := by decide +kernel
theorem dX10_say_27 : decode cX10_say 27 = .ok (.iload_n 1, 1) := by decide +kernel
theorem dX10_say_28 : decode cX10_say 28 = .ok (.iload_n 2, 1) := by decide +kernel
theorem dX10_say_29 : decode cX10_say 29 = .ok (.iload_n 3, 1) := by decide +kernel
theorem dX10_say_30 : decode cX10_say 30 = .ok (.invokevirtual 134, 3) := by decide +kernel
theorem dX10_say_33 : decode cX10_say 33 = .ok (.ireturn, 1) := by decide +kernel
theorem dX10_sayingIs_0 : decode cX10_sayingIs 0 = .ok (.aload_n 0, 1) := by decide +kernel
theorem dX10_sayingIs_1 : decode cX10_sayingIs 1 = .ok (.getfield 12, 3) := by decide +kernel
theorem dX10_sayingIs_4 : decode cX10_sayingIs 4 = .ok (.iload_n 1, 1) := by decide +kernel
theorem dX10_sayingIs_5 : decode cX10_sayingIs 5 = .ok (.invokevirtual 138, 3) := by decide +kernel
theorem dX10_sayingIs_8 : decode cX10_sayingIs 8 = .ok (.ifCond .eq 12, 3) := by decide +kernel
theorem dX10_sayingIs_11 : decode cX10_sayingIs 11 = .ok (.iload_n 2, 1) := by decide +kernel
theorem dX10_sayingIs_12 : decode cX10_sayingIs 12 = .ok (.iconst 0, 1) := by decide +kernel
theorem dX10_sayingIs_13 : decode cX10_sayingIs 13 = .ok (.iconst 3, 1) := by decide +kernel
theorem dX10_sayingIs_14 : decode cX10_sayingIs 14 = .ok (.invokestatic 79, 3) := by decide +kernel
theorem dX10_sayingIs_17 : decode cX10_sayingIs 17 = .ok (.ifCond .eq 10, 3) := by decide +kernel
theorem dX10_sayingIs_20 : decode cX10_sayingIs 20 = .ok (.aload_n 0, 1) := by decide +kernel
theorem dX10_sayingIs_21 : decode cX10_sayingIs 21 = .ok (.ldc 83, 2) := by decide +kernel
theorem dX10_sayingIs_23 : decode cX10_sayingIs 23 = .ok (.invokevirtual 84, 3) := by decide +kernel
theorem dX10_sayingIs_26 : decode cX10_sayingIs 26 = .ok (.ireturn, 1) := by decide +kernel
theorem dX10_sayingIs_27 : decode cX10_sayingIs 27 = .ok (.iload_n 2, 1) := by decide +kernel
theorem dX10_sayingIs_28 : decode cX10_sayingIs 28 = .ok (.tableswitch 65 0 2 #[28, 38, 48], 28) := by decide +kernel
theorem dX10_sayingIs_56 : decode cX10_sayingIs 56 = .ok (.aload_n 0, 1) := by decide +kernel
theorem dX10_sayingIs_57 : decode cX10_sayingIs 57 = .ok (.getfield 12, 3) := by decide +kernel
theorem dX10_sayingIs_60 : decode cX10_sayingIs 60 = .ok (.getfield 141, 3) := by decide +kernel
theorem dX10_sayingIs_63 : decode cX10_sayingIs 63 = .ok (.iload_n 1, 1) := by decide +kernel
theorem dX10_sayingIs_64 : decode cX10_sayingIs 64 = .ok (.iaload, 1) := by decide +kernel
theorem dX10_sayingIs_65 : decode cX10_sayingIs 65 = .ok (.ireturn, 1) := by decide +kernel
theorem dX10_sayingIs_66 : decode cX10_sayingIs 66 = .ok (.aload_n 0, 1) := by decide +kernel
theorem dX10_sayingIs_67 : decode cX10_sayingIs 67 = .ok (.getfield 12, 3) := by decide +kernel
theorem dX10_sayingIs_70 : decode cX10_sayingIs 70 = .ok (.getfield 144, 3) := by decide +kernel
theorem dX10_sayingIs_73 : decode cX10_sayingIs 73 = .ok (.iload_n 1, 1) := by decide +kernel
theorem dX10_sayingIs_74 : decode cX10_sayingIs 74 = .ok (.iaload, 1) := by decide +kernel
theorem dX10_sayingIs_75 : decode cX10_sayingIs 75 = .ok (.ireturn, 1) := by decide +kernel
theorem dX10_sayingIs_76 : decode cX10_sayingIs 76 = .ok (.aload_n 0, 1) := by decide +kernel
theorem dX10_sayingIs_77 : decode cX10_sayingIs 77 = .ok (.getfield 12, 3) := by decide +kernel
theorem dX10_sayingIs_80 : decode cX10_sayingIs 80 = .ok (.iload_n 1, 1) := by decide +kernel
theorem dX10_sayingIs_81 : decode cX10_sayingIs 81 = .ok (.invokevirtual 147, 3) := by decide +kernel
theorem dX10_sayingIs_84 : decode cX10_sayingIs 84 = .ok (.ifCond .eq 7, 3) := by decide +kernel
theorem dX10_sayingIs_87 : decode cX10_sayingIs 87 = .ok (.iconst 1, 1) := by decide +kernel
theorem dX10_sayingIs_88 : decode cX10_sayingIs 88 = .ok (.goto 4, 3) := by decide +kernel
theorem dX10_sayingIs_91 : decode cX10_sayingIs 91 = .ok (.iconst 0, 1) := by decide +kernel
theorem dX10_sayingIs_92 : decode cX10_sayingIs 92 = .ok (.ireturn, 1) := by decide +kernel
theorem dX10_sayingIs_93 : decode cX10_sayingIs 93 = .ok (.aload_n 0, 1) := by decide +kernel
theorem dX10_sayingIs_94 : decode cX10_sayingIs 94 = .ok (.getfield 12, 3) := by decide +kernel
theorem dX10_sayingIs_97 : decode cX10_sayingIs 97 = .ok (.iload_n 1, 1) := by decide +kernel
theorem dX10_sayingIs_98 : decode cX10_sayingIs 98 = .ok (.invokevirtual 150, 3) := by decide +kernel
theorem dX10_sayingIs_101 : decode cX10_sayingIs 101 = .ok (.ifCond .eq 7, 3) := by decide +kernel
theorem dX10_sayingIs_104 : decode cX10_sayingIs 104 = .ok (.iconst 1, 1) := by decide +kernel
theorem dX10_sayingIs_105 : decode cX10_sayingIs 105 = .ok (.goto 4, 3) := by decide +kernel
theorem dX10_sayingIs_108 : decode cX10_sayingIs 108 = .ok (.iconst 0, 1) := by decide +kernel
theorem dX10_sayingIs_109 : decode cX10_sayingIs 109 = .ok (.ireturn, 1) := by decide +kernel
theorem dX10_unsay_0 : decode cX10_unsay 0 = .ok (.aload_n 0, 1) := by decide +kernel
theorem dX10_unsay_1 : decode cX10_unsay 1 = .ok (.getfield 12, 3) := by decide +kernel
theorem dX10_unsay_4 : decode cX10_unsay 4 = .ok (.iload_n 1, 1) := by decide +kernel
theorem dX10_unsay_5 : decode cX10_unsay 5 = .ok (.invokevirtual 138, 3) := by decide +kernel
theorem dX10_unsay_8 : decode cX10_unsay 8 = .ok (.ifCond .ne 10, 3) := by decide +kernel
theorem dX10_unsay_11 : decode cX10_unsay 11 = .ok (.aload_n 0, 1) := by decide +kernel
theorem dX10_unsay_12 : decode cX10_unsay 12 = .ok (.ldc 83, 2) := by decide +kernel
theorem dX10_unsay_14 : decode cX10_unsay 14 = .ok (.invokevirtual 84, 3) := by decide +kernel
theorem dX10_unsay_17 : decode cX10_unsay 17 = .ok (.ireturn, 1) := by decide +kernel
theorem dX10_unsay_18 : decode cX10_unsay 18 = .ok (.aload_n 0, 1) := by decide +kernel
theorem dX10_unsay_19 : decode cX10_unsay 19 = .ok (.getfield 12, 3) := by decide +kernel
theorem dX10_unsay_22 : decode cX10_unsay 22 = .ok (.iload_n 1, 1) := by decide +kernel
theorem dX10_unsay_23 : decode cX10_unsay 23 = .ok (.invokevirtual 150, 3) := by decide +kernel
theorem dX10_unsay_26 : decode cX10_unsay 26 = .ok (.ifCond .ne 10, 3) := by decide +kernel
theorem dX10_unsay_29 : decode cX10_unsay 29 = .ok (.aload_n 0, 1) := by decide +kernel
theorem dX10_unsay_30 : decode cX10_unsay 30 = .ok (.ldc 126, 2) := by decide +kernel
theorem dX10_unsay_32 : decode cX10_unsay 32 = .ok (.invokevirtual 84, 3) := by decide +kernel
theorem dX10_unsay_35 : decode cX10_unsay 35 = .ok (.ireturn, 1) := by decide +kernel
theorem dX10_unsay_36 : decode cX10_unsay 36 = .ok (.aload_n 0, 1) := by decide +kernel
theorem dX10_unsay_37 : decode cX10_unsay 37 = .ok (.getfield 12, 3) := by decide +kernel
theorem dX10_unsay_40 : decode cX10_unsay 40 = .ok (.iload_n 1, 1) := by decide +kernel
theorem dX10_unsay_41 : decode cX10_unsay 41 = .ok (.invokevirtual 153, 3) := by decide +kernel
theorem dX10_unsay_44 : decode cX10_unsay 44 = .ok (.iconst 1, 1) := by decide +kernel
theorem dX10_unsay_45 : decode cX10_unsay 45 = .ok (.ireturn, 1) := by decide +kernel
theorem dX10_most_0 : decode cX10_most 0 = .ok (.iload_n 1, 1) := by decide +kernel
theorem dX10_most_1 : decode cX10_most 1 = .ok (.iconst 0, 1) := by decide +kernel
theorem dX10_most_2 : decode cX10_most 2 = .ok (.bipush 12, 2) := by decide +kernel
theorem dX10_most_4 : decode cX10_most 4 = .ok (.invokestatic 79, 3) := by decide +kernel
theorem dX10_most_7 : decode cX10_most 7 = .ok (.ifCond .eq 10, 3) := by decide +kernel
theorem dX10_most_10 : decode cX10_most 10 = .ok (.aload_n 0, 1) := by decide +kernel
theorem dX10_most_11 : decode cX10_most 11 = .ok (.ldc 83, 2) := by decide +kernel
theorem dX10_most_13 : decode cX10_most 13 = .ok (.invokevirtual 84, 3) := by decide +kernel
theorem dX10_most_16 : decode cX10_most 16 = .ok (.ireturn, 1) := by decide +kernel
theorem dX10_most_17 : decode cX10_most 17 = .ok (.aload_n 0, 1) := by decide +kernel
theorem dX10_most_18 : decode cX10_most 18 = .ok (.getfield 12, 3) := by decide +kernel
theorem dX10_most_21 : decode cX10_most 21 = .ok (.iload_n 1, 1) := by decide +kernel
theorem dX10_most_22 : decode cX10_most 22 = .ok (.invokevirtual 157, 3) := by decide +kernel
theorem dX10_most_25 : decode cX10_most 25 = .ok (.ireturn, 1) := by decide +kernel
theorem dX10_feed_0 : decode cX10_feed 0 = .ok (.iload_n 3, 1) := by decide +kernel
theorem dX10_feed_1 : decode cX10_feed 1 = .ok (.iconst 1, 1) := by decide +kernel
theorem dX10_feed_2 : decode cX10_feed 2 = .ok (.bipush 8, 2) := by decide +kernel
theorem dX10_feed_4 : decode cX10_feed 4 = .ok (.invokestatic 79, 3) := by decide +kernel
theorem dX10_feed_7 : decode cX10_feed 7 = .ok (.ifCond .eq 10, 3) := by decide +kernel
theorem dX10_feed_10 : decode cX10_feed 10 = .ok (.aload_n 0, 1) := by decide +kernel
theorem dX10_feed_11 : decode cX10_feed 11 = .ok (.ldc 83, 2) := by decide +kernel
theorem dX10_feed_13 : decode cX10_feed 13 = .ok (.invokevirtual 84, 3) := by decide +kernel
theorem dX10_feed_16 : decode cX10_feed 16 = .ok (.ireturn, 1) := by decide +kernel
theorem dX10_feed_17 : decode cX10_feed 17 = .ok (.iload_n 3, 1) := by decide +kernel
theorem dX10_feed_18 : decode cX10_feed 18 = .ok (.bipush 80, 2) := by decide +kernel
theorem dX10_feed_20 : decode cX10_feed 20 = .ok (.aload_n 0, 1) := by decide +kernel
theorem dX10_feed_21 : decode cX10_feed 21 = .ok (.getfield 12, 3) := by decide +kernel
theorem dX10_feed_24 : decode cX10_feed 24 = .ok (.getfield 160, 3) := by decide +kernel
theorem dX10_feed_27 : decode cX10_feed 27 = .ok (.isub, 1) := by decide +kernel
theorem dX10_feed_28 : decode cX10_feed 28 = .ok (.if_icmp .le 10, 3) := by decide +kernel
theorem dX10_feed_31 : decode cX10_feed 31 = .ok (.aload_n 0, 1) := by decide +kernel
theorem dX10_feed_32 : decode cX10_feed 32 = .ok (.ldc 92, 2) := by decide +kernel
theorem dX10_feed_34 : decode cX10_feed 34 = .ok (.invokevirtual 84, 3) := by decide +kernel
theorem dX10_feed_37 : decode cX10_feed 37 = .ok (.ireturn, 1) := by decide +kernel
theorem dX10_feed_38 : decode cX10_feed 38 = .ok (.aload_n 0, 1) := by decide +kernel
theorem dX10_feed_39 : decode cX10_feed 39 = .ok (.getfield 12, 3) := by decide +kernel
theorem dX10_feed_42 : decode cX10_feed 42 = .ok (.lload_n 1, 1) := by decide +kernel
theorem dX10_feed_43 : decode cX10_feed 43 = .ok (.iload_n 3, 1) := by decide +kernel
theorem dX10_feed_44 : decode cX10_feed 44 = .ok (.invokevirtual 164, 3) := by decide +kernel
theorem dX10_feed_47 : decode cX10_feed 47 = .ok (.ireturn, 1) := by decide +kernel
theorem dX10_text_0 : decode cX10_text 0 = .ok (.aload_n 0, 1) := by decide +kernel
theorem dX10_text_1 : decode cX10_text 1 = .ok (.getfield 19, 3) := by decide +kernel
theorem dX10_text_4 : decode cX10_text 4 = .ok (.aload_n 0, 1) := by decide +kernel
theorem dX10_text_5 : decode cX10_text 5 = .ok (.getfield 12, 3) := by decide +kernel
theorem dX10_text_8 : decode cX10_text 8 = .ok (.invokevirtual 168, 3) := by decide +kernel
theorem dX10_text_11 : decode cX10_text 11 = .ok (.aload_n 0, 1) := by decide +kernel
theorem dX10_text_12 : decode cX10_text 12 = .ok (.getfield 27, 3) := by decide +kernel
theorem dX10_text_15 : decode cX10_text 15 = .ok (.invokevirtual 171, 3) := by decide +kernel
theorem dX10_text_18 : decode cX10_text 18 = .ok (.istore_n 1, 1) := by decide +kernel
theorem dX10_text_19 : decode cX10_text 19 = .ok (.iload_n 1, 1) := by decide +kernel
theorem dX10_text_20 : decode cX10_text 20 = .ok (.ifCond .lt 14, 3) := by decide +kernel
theorem dX10_text_23 : decode cX10_text 23 = .ok (.aload_n 0, 1) := by decide +kernel
theorem dX10_text_24 : decode cX10_text 24 = .ok (.getfield 12, 3) := by decide +kernel
theorem dX10_text_27 : decode cX10_text 27 = .ok (.aload_n 0, 1) := by decide +kernel
theorem dX10_text_28 : decode cX10_text 28 = .ok (.getfield 19, 3) := by decide +kernel
theorem dX10_text_31 : decode cX10_text 31 = .ok (.invokevirtual 168, 3) := by decide +kernel
theorem dX10_text_34 : decode cX10_text 34 = .ok (.aload_n 0, 1) := by decide +kernel
theorem dX10_text_35 : decode cX10_text 35 = .ok (.getfield 12, 3) := by decide +kernel
theorem dX10_text_38 : decode cX10_text 38 = .ok (.iconst 0, 1) := by decide +kernel
theorem dX10_text_39 : decode cX10_text 39 = .ok (.putfield 160, 3) := by decide +kernel
theorem dX10_text_42 : decode cX10_text 42 = .ok (.iload_n 1, 1) := by decide +kernel
theorem dX10_text_43 : decode cX10_text 43 = .ok (.ireturn, 1) := by decide +kernel
theorem dX10_fits_0 : decode cX10_fits 0 = .ok (.aload_n 0, 1) := by decide +kernel
theorem dX10_fits_1 : decode cX10_fits 1 = .ok (.getfield 12, 3) := by decide +kernel
theorem dX10_fits_4 : decode cX10_fits 4 = .ok (.iload_n 1, 1) := by decide +kernel
theorem dX10_fits_5 : decode cX10_fits 5 = .ok (.invokevirtual 175, 3) := by decide +kernel
theorem dX10_fits_8 : decode cX10_fits 8 = .ok (.ifCond .ne 10, 3) := by decide +kernel
theorem dX10_fits_11 : decode cX10_fits 11 = .ok (.aload_n 0, 1) := by decide +kernel
theorem dX10_fits_12 : decode cX10_fits 12 = .ok (.ldc 83, 2) := by decide +kernel
theorem dX10_fits_14 : decode cX10_fits 14 = .ok (.invokevirtual 84, 3) := by decide +kernel
theorem dX10_fits_17 : decode cX10_fits 17 = .ok (.ireturn, 1) := by decide +kernel
theorem dX10_fits_18 : decode cX10_fits 18 = .ok (.aload_n 0, 1) := by decide +kernel
theorem dX10_fits_19 : decode cX10_fits 19 = .ok (.getfield 34, 3) := by decide +kernel
theorem dX10_fits_22 : decode cX10_fits 22 = .ok (.invokevirtual 178, 3) := by decide +kernel
theorem dX10_fits_25 : decode cX10_fits 25 = .ok (.aload_n 0, 1) := by decide +kernel
theorem dX10_fits_26 : decode cX10_fits 26 = .ok (.getfield 34, 3) := by decide +kernel
theorem dX10_fits_29 : decode cX10_fits 29 = .ok (.iload_n 1, 1) := by decide +kernel
theorem dX10_fits_30 : decode cX10_fits 30 = .ok (.invokevirtual 181, 3) := by decide +kernel
theorem dX10_fits_33 : decode cX10_fits 33 = .ok (.ifCond .eq 7, 3) := by decide +kernel
theorem dX10_fits_36 : decode cX10_fits 36 = .ok (.iconst 1, 1) := by decide +kernel
theorem dX10_fits_37 : decode cX10_fits 37 = .ok (.goto 4, 3) := by decide +kernel
theorem dX10_fits_40 : decode cX10_fits 40 = .ok (.iconst 0, 1) := by decide +kernel
theorem dX10_fits_41 : decode cX10_fits 41 = .ok (.ireturn, 1) := by decide +kernel
theorem dX10_bars_0 : decode cX10_bars 0 = .ok (.aload_n 0, 1) := by decide +kernel
theorem dX10_bars_1 : decode cX10_bars 1 = .ok (.getfield 12, 3) := by decide +kernel
theorem dX10_bars_4 : decode cX10_bars 4 = .ok (.iload_n 1, 1) := by decide +kernel
theorem dX10_bars_5 : decode cX10_bars 5 = .ok (.invokevirtual 175, 3) := by decide +kernel
theorem dX10_bars_8 : decode cX10_bars 8 = .ok (.ifCond .ne 10, 3) := by decide +kernel
theorem dX10_bars_11 : decode cX10_bars 11 = .ok (.aload_n 0, 1) := by decide +kernel
theorem dX10_bars_12 : decode cX10_bars 12 = .ok (.ldc 83, 2) := by decide +kernel
theorem dX10_bars_14 : decode cX10_bars 14 = .ok (.invokevirtual 84, 3) := by decide +kernel
theorem dX10_bars_17 : decode cX10_bars 17 = .ok (.ireturn, 1) := by decide +kernel
theorem dX10_bars_18 : decode cX10_bars 18 = .ok (.iload_n 1, 1) := by decide +kernel
theorem dX10_bars_19 : decode cX10_bars 19 = .ok (.invokestatic 184, 3) := by decide +kernel
theorem dX10_bars_22 : decode cX10_bars 22 = .ok (.aload_n 0, 1) := by decide +kernel
theorem dX10_bars_23 : decode cX10_bars 23 = .ok (.getfield 12, 3) := by decide +kernel
theorem dX10_bars_26 : decode cX10_bars 26 = .ok (.getfield 189, 3) := by decide +kernel
theorem dX10_bars_29 : decode cX10_bars 29 = .ok (.if_icmp .le 6, 3) := by decide +kernel
theorem dX10_bars_32 : decode cX10_bars 32 = .ok (.bipush 100, 2) := by decide +kernel
theorem dX10_bars_34 : decode cX10_bars 34 = .ok (.ireturn, 1) := by decide +kernel
theorem dX10_bars_35 : decode cX10_bars 35 = .ok (.aload_n 0, 1) := by decide +kernel
theorem dX10_bars_36 : decode cX10_bars 36 = .ok (.getfield 12, 3) := by decide +kernel
theorem dX10_bars_39 : decode cX10_bars 39 = .ok (.iload_n 1, 1) := by decide +kernel
theorem dX10_bars_40 : decode cX10_bars 40 = .ok (.invokevirtual 192, 3) := by decide +kernel
theorem dX10_bars_43 : decode cX10_bars 43 = .ok (.ireturn, 1) := by decide +kernel
theorem dX10_many_0 : decode cX10_many 0 = .ok (.aload_n 0, 1) := by decide +kernel
theorem dX10_many_1 : decode cX10_many 1 = .ok (.getfield 34, 3) := by decide +kernel
theorem dX10_many_4 : decode cX10_many 4 = .ok (.invokevirtual 178, 3) := by decide +kernel
theorem dX10_many_7 : decode cX10_many 7 = .ok (.aload_n 0, 1) := by decide +kernel
theorem dX10_many_8 : decode cX10_many 8 = .ok (.getfield 34, 3) := by decide +kernel
theorem dX10_many_11 : decode cX10_many 11 = .ok (.getfield 195, 3) := by decide +kernel
theorem dX10_many_14 : decode cX10_many 14 = .ok (.ireturn, 1) := by decide +kernel
theorem dX10_which_0 : decode cX10_which 0 = .ok (.aload_n 0, 1) := by decide +kernel
theorem dX10_which_1 : decode cX10_which 1 = .ok (.getfield 34, 3) := by decide +kernel
theorem dX10_which_4 : decode cX10_which 4 = .ok (.invokevirtual 178, 3) := by decide +kernel
theorem dX10_which_7 : decode cX10_which 7 = .ok (.iload_n 1, 1) := by decide +kernel
theorem dX10_which_8 : decode cX10_which 8 = .ok (.iconst 0, 1) := by decide +kernel
theorem dX10_which_9 : decode cX10_which 9 = .ok (.aload_n 0, 1) := by decide +kernel
theorem dX10_which_10 : decode cX10_which 10 = .ok (.getfield 34, 3) := by decide +kernel
theorem dX10_which_13 : decode cX10_which 13 = .ok (.getfield 195, 3) := by decide +kernel
theorem dX10_which_16 : decode cX10_which 16 = .ok (.iconst 1, 1) := by decide +kernel
theorem dX10_which_17 : decode cX10_which 17 = .ok (.isub, 1) := by decide +kernel
theorem dX10_which_18 : decode cX10_which 18 = .ok (.invokestatic 79, 3) := by decide +kernel
theorem dX10_which_21 : decode cX10_which 21 = .ok (.ifCond .eq 10, 3) := by decide +kernel
theorem dX10_which_24 : decode cX10_which 24 = .ok (.aload_n 0, 1) := by decide +kernel
theorem dX10_which_25 : decode cX10_which 25 = .ok (.ldc 83, 2) := by decide +kernel
theorem dX10_which_27 : decode cX10_which 27 = .ok (.invokevirtual 84, 3) := by decide +kernel
theorem dX10_which_30 : decode cX10_which 30 = .ok (.ireturn, 1) := by decide +kernel
theorem dX10_which_31 : decode cX10_which 31 = .ok (.aload_n 0, 1) := by decide +kernel
theorem dX10_which_32 : decode cX10_which 32 = .ok (.getfield 34, 3) := by decide +kernel
theorem dX10_which_35 : decode cX10_which 35 = .ok (.getfield 198, 3) := by decide +kernel
theorem dX10_which_38 : decode cX10_which 38 = .ok (.iload_n 1, 1) := by decide +kernel
theorem dX10_which_39 : decode cX10_which 39 = .ok (.iaload, 1) := by decide +kernel
theorem dX10_which_40 : decode cX10_which 40 = .ok (.ireturn, 1) := by decide +kernel
theorem dX10_sure_0 : decode cX10_sure 0 = .ok (.iload_n 1, 1) := by decide +kernel
theorem dX10_sure_1 : decode cX10_sure 1 = .ok (.iconst 0, 1) := by decide +kernel
theorem dX10_sure_2 : decode cX10_sure 2 = .ok (.iconst 1, 1) := by decide +kernel
theorem dX10_sure_3 : decode cX10_sure 3 = .ok (.invokestatic 79, 3) := by decide +kernel
theorem dX10_sure_6 : decode cX10_sure 6 = .ok (.ifCond .eq 10, 3) := by decide +kernel
theorem dX10_sure_9 : decode cX10_sure 9 = .ok (.aload_n 0, 1) := by decide +kernel
theorem dX10_sure_10 : decode cX10_sure 10 = .ok (.ldc 83, 2) := by decide +kernel
theorem dX10_sure_12 : decode cX10_sure 12 = .ok (.invokevirtual 84, 3) := by decide +kernel
theorem dX10_sure_15 : decode cX10_sure 15 = .ok (.ireturn, 1) := by decide +kernel
theorem dX10_sure_16 : decode cX10_sure 16 = .ok (.aload_n 0, 1) := by decide +kernel
theorem dX10_sure_17 : decode cX10_sure 17 = .ok (.getfield 34, 3) := by decide +kernel
theorem dX10_sure_20 : decode cX10_sure 20 = .ok (.invokevirtual 178, 3) := by decide +kernel
theorem dX10_sure_23 : decode cX10_sure 23 = .ok (.aload_n 0, 1) := by decide +kernel
theorem dX10_sure_24 : decode cX10_sure 24 = .ok (.getfield 34, 3) := by decide +kernel
theorem dX10_sure_27 : decode cX10_sure 27 = .ok (.getfield 195, 3) := by decide +kernel
theorem dX10_sure_30 : decode cX10_sure 30 = .ok (.ifCond .ne 10, 3) := by decide +kernel
theorem dX10_sure_33 : decode cX10_sure 33 = .ok (.aload_n 0, 1) := by decide +kernel
theorem dX10_sure_34 : decode cX10_sure 34 = .ok (.ldc 201, 2) := by decide +kernel
theorem dX10_sure_36 : decode cX10_sure 36 = .ok (.invokevirtual 84, 3) := by decide +kernel
theorem dX10_sure_39 : decode cX10_sure 39 = .ok (.ireturn, 1) := by decide +kernel
theorem dX10_sure_40 : decode cX10_sure 40 = .ok (.iload_n 1, 1) := by decide +kernel
theorem dX10_sure_41 : decode cX10_sure 41 = .ok (.ifCond .ne 13, 3) := by decide +kernel
theorem dX10_sure_44 : decode cX10_sure 44 = .ok (.aload_n 0, 1) := by decide +kernel
theorem dX10_sure_45 : decode cX10_sure 45 = .ok (.getfield 34, 3) := by decide +kernel
theorem dX10_sure_48 : decode cX10_sure 48 = .ok (.invokevirtual 202, 3) := by decide +kernel
theorem dX10_sure_51 : decode cX10_sure 51 = .ok (.goto 10, 3) := by decide +kernel
theorem dX10_sure_54 : decode cX10_sure 54 = .ok (.aload_n 0, 1) := by decide +kernel
theorem dX10_sure_55 : decode cX10_sure 55 = .ok (.getfield 34, 3) := by decide +kernel
theorem dX10_sure_58 : decode cX10_sure 58 = .ok (.invokevirtual 205, 3) := by decide +kernel
theorem dX10_sure_61 : decode cX10_sure 61 = .ok (.ireturn, 1) := by decide +kernel
theorem dX10_blame_0 : decode cX10_blame 0 = .ok (.iload_n 1, 1) := by decide +kernel
theorem dX10_blame_1 : decode cX10_blame 1 = .ok (.iconst 0, 1) := by decide +kernel
theorem dX10_blame_2 : decode cX10_blame 2 = .ok (.iconst 1, 1) := by decide +kernel
theorem dX10_blame_3 : decode cX10_blame 3 = .ok (.invokestatic 79, 3) := by decide +kernel
theorem dX10_blame_6 : decode cX10_blame 6 = .ok (.ifCond .eq 10, 3) := by decide +kernel
theorem dX10_blame_9 : decode cX10_blame 9 = .ok (.aload_n 0, 1) := by decide +kernel
theorem dX10_blame_10 : decode cX10_blame 10 = .ok (.ldc 83, 2) := by decide +kernel
theorem dX10_blame_12 : decode cX10_blame 12 = .ok (.invokevirtual 84, 3) := by decide +kernel
theorem dX10_blame_15 : decode cX10_blame 15 = .ok (.ireturn, 1) := by decide +kernel
theorem dX10_blame_16 : decode cX10_blame 16 = .ok (.aload_n 0, 1) := by decide +kernel
theorem dX10_blame_17 : decode cX10_blame 17 = .ok (.getfield 34, 3) := by decide +kernel
theorem dX10_blame_20 : decode cX10_blame 20 = .ok (.invokevirtual 178, 3) := by decide +kernel
theorem dX10_blame_23 : decode cX10_blame 23 = .ok (.aload_n 0, 1) := by decide +kernel
theorem dX10_blame_24 : decode cX10_blame 24 = .ok (.getfield 34, 3) := by decide +kernel
theorem dX10_blame_27 : decode cX10_blame 27 = .ok (.invokevirtual 208, 3) := by decide +kernel
theorem dX10_blame_30 : decode cX10_blame 30 = .ok (.istore_n 2, 1) := by decide +kernel
theorem dX10_blame_31 : decode cX10_blame 31 = .ok (.iload_n 1, 1) := by decide +kernel
theorem dX10_blame_32 : decode cX10_blame 32 = .ok (.ifCond .ne 14, 3) := by decide +kernel
theorem dX10_blame_35 : decode cX10_blame 35 = .ok (.aload_n 0, 1) := by decide +kernel
theorem dX10_blame_36 : decode cX10_blame 36 = .ok (.getfield 34, 3) := by decide +kernel
theorem dX10_blame_39 : decode cX10_blame 39 = .ok (.iload_n 2, 1) := by decide +kernel
theorem dX10_blame_40 : decode cX10_blame 40 = .ok (.invokevirtual 211, 3) := by decide +kernel
theorem dX10_blame_43 : decode cX10_blame 43 = .ok (.goto 4, 3) := by decide +kernel
theorem dX10_blame_46 : decode cX10_blame 46 = .ok (.iload_n 2, 1) := by decide +kernel
theorem dX10_blame_47 : decode cX10_blame 47 = .ok (.ireturn, 1) := by decide +kernel
theorem dX10_leads_0 : decode cX10_leads 0 = .ok (.aload_n 0, 1) := by decide +kernel
theorem dX10_leads_1 : decode cX10_leads 1 = .ok (.getfield 12, 3) := by decide +kernel
theorem dX10_leads_4 : decode cX10_leads 4 = .ok (.iload_n 1, 1) := by decide +kernel
theorem dX10_leads_5 : decode cX10_leads 5 = .ok (.invokevirtual 97, 3) := by decide +kernel
theorem dX10_leads_8 : decode cX10_leads 8 = .ok (.ifCond .ne 10, 3) := by decide +kernel
theorem dX10_leads_11 : decode cX10_leads 11 = .ok (.aload_n 0, 1) := by decide +kernel
theorem dX10_leads_12 : decode cX10_leads 12 = .ok (.ldc 83, 2) := by decide +kernel
theorem dX10_leads_14 : decode cX10_leads 14 = .ok (.invokevirtual 84, 3) := by decide +kernel
theorem dX10_leads_17 : decode cX10_leads 17 = .ok (.ireturn, 1) := by decide +kernel
theorem dX10_leads_18 : decode cX10_leads 18 = .ok (.aload_n 0, 1) := by decide +kernel
theorem dX10_leads_19 : decode cX10_leads 19 = .ok (.getfield 12, 3) := by decide +kernel
theorem dX10_leads_22 : decode cX10_leads 22 = .ok (.iload_n 1, 1) := by decide +kernel
theorem dX10_leads_23 : decode cX10_leads 23 = .ok (.invokevirtual 214, 3) := by decide +kernel
theorem dX10_leads_26 : decode cX10_leads 26 = .ok (.ireturn, 1) := by decide +kernel
theorem dX10_known_0 : decode cX10_known 0 = .ok (.aload_n 0, 1) := by decide +kernel
theorem dX10_known_1 : decode cX10_known 1 = .ok (.getfield 41, 3) := by decide +kernel
theorem dX10_known_4 : decode cX10_known 4 = .ok (.invokevirtual 217, 3) := by decide +kernel
theorem dX10_known_7 : decode cX10_known 7 = .ok (.aload_n 0, 1) := by decide +kernel
theorem dX10_known_8 : decode cX10_known 8 = .ok (.getfield 41, 3) := by decide +kernel
theorem dX10_known_11 : decode cX10_known 11 = .ok (.invokevirtual 220, 3) := by decide +kernel
theorem dX10_known_14 : decode cX10_known 14 = .ok (.ireturn, 1) := by decide +kernel
theorem dX10_pair_0 : decode cX10_pair 0 = .ok (.iload_n 1, 1) := by decide +kernel
theorem dX10_pair_1 : decode cX10_pair 1 = .ok (.iconst 0, 1) := by decide +kernel
theorem dX10_pair_2 : decode cX10_pair 2 = .ok (.iconst 1, 1) := by decide +kernel
theorem dX10_pair_3 : decode cX10_pair 3 = .ok (.invokestatic 79, 3) := by decide +kernel
theorem dX10_pair_6 : decode cX10_pair 6 = .ok (.ifCond .eq 10, 3) := by decide +kernel
theorem dX10_pair_9 : decode cX10_pair 9 = .ok (.aload_n 0, 1) := by decide +kernel
theorem dX10_pair_10 : decode cX10_pair 10 = .ok (.ldc 83, 2) := by decide +kernel
theorem dX10_pair_12 : decode cX10_pair 12 = .ok (.invokevirtual 84, 3) := by decide +kernel
theorem dX10_pair_15 : decode cX10_pair 15 = .ok (.ireturn, 1) := by decide +kernel
theorem dX10_pair_16 : decode cX10_pair 16 = .ok (.aload_n 0, 1) := by decide +kernel
theorem dX10_pair_17 : decode cX10_pair 17 = .ok (.getfield 41, 3) := by decide +kernel
theorem dX10_pair_20 : decode cX10_pair 20 = .ok (.invokevirtual 217, 3) := by decide +kernel
theorem dX10_pair_23 : decode cX10_pair 23 = .ok (.aload_n 0, 1) := by decide +kernel
theorem dX10_pair_24 : decode cX10_pair 24 = .ok (.getfield 41, 3) := by decide +kernel
theorem dX10_pair_27 : decode cX10_pair 27 = .ok (.invokevirtual 220, 3) := by decide +kernel
theorem dX10_pair_30 : decode cX10_pair 30 = .ok (.bipush 12, 2) := by decide +kernel
theorem dX10_pair_32 : decode cX10_pair 32 = .ok (.if_icmp .ne 10, 3) := by decide +kernel
theorem dX10_pair_35 : decode cX10_pair 35 = .ok (.aload_n 0, 1) := by decide +kernel
theorem dX10_pair_36 : decode cX10_pair 36 = .ok (.ldc 201, 2) := by decide +kernel
theorem dX10_pair_38 : decode cX10_pair 38 = .ok (.invokevirtual 84, 3) := by decide +kernel
theorem dX10_pair_41 : decode cX10_pair 41 = .ok (.ireturn, 1) := by decide +kernel
theorem dX10_pair_42 : decode cX10_pair 42 = .ok (.iload_n 1, 1) := by decide +kernel
theorem dX10_pair_43 : decode cX10_pair 43 = .ok (.ifCond .ne 13, 3) := by decide +kernel
theorem dX10_pair_46 : decode cX10_pair 46 = .ok (.aload_n 0, 1) := by decide +kernel
theorem dX10_pair_47 : decode cX10_pair 47 = .ok (.getfield 41, 3) := by decide +kernel
theorem dX10_pair_50 : decode cX10_pair 50 = .ok (.invokevirtual 223, 3) := by decide +kernel
theorem dX10_pair_53 : decode cX10_pair 53 = .ok (.goto 10, 3) := by decide +kernel
theorem dX10_pair_56 : decode cX10_pair 56 = .ok (.aload_n 0, 1) := by decide +kernel
theorem dX10_pair_57 : decode cX10_pair 57 = .ok (.getfield 41, 3) := by decide +kernel
theorem dX10_pair_60 : decode cX10_pair 60 = .ok (.invokevirtual 226, 3) := by decide +kernel
theorem dX10_pair_63 : decode cX10_pair 63 = .ok (.ireturn, 1) := by decide +kernel
theorem dX10_more_0 : decode cX10_more 0 = .ok (.aload_n 0, 1) := by decide +kernel
theorem dX10_more_1 : decode cX10_more 1 = .ok (.getfield 41, 3) := by decide +kernel
theorem dX10_more_4 : decode cX10_more 4 = .ok (.invokevirtual 217, 3) := by decide +kernel
theorem dX10_more_7 : decode cX10_more 7 = .ok (.aload_n 0, 1) := by decide +kernel
theorem dX10_more_8 : decode cX10_more 8 = .ok (.getfield 41, 3) := by decide +kernel
theorem dX10_more_11 : decode cX10_more 11 = .ok (.invokevirtual 229, 3) := by decide +kernel
theorem dX10_more_14 : decode cX10_more 14 = .ok (.istore_n 1, 1) := by decide +kernel
theorem dX10_more_15 : decode cX10_more 15 = .ok (.iload_n 1, 1) := by decide +kernel
theorem dX10_more_16 : decode cX10_more 16 = .ok (.ifCond .ge 12, 3) := by decide +kernel
theorem dX10_more_19 : decode cX10_more 19 = .ok (.aload_n 0, 1) := by decide +kernel
theorem dX10_more_20 : decode cX10_more 20 = .ok (.ldc 201, 2) := by decide +kernel
theorem dX10_more_22 : decode cX10_more 22 = .ok (.invokevirtual 84, 3) := by decide +kernel
theorem dX10_more_25 : decode cX10_more 25 = .ok (.goto 4, 3) := by decide +kernel
theorem dX10_more_28 : decode cX10_more 28 = .ok (.iload_n 1, 1) := by decide +kernel
theorem dX10_more_29 : decode cX10_more 29 = .ok (.ireturn, 1) := by decide +kernel
theorem dX10_without_0 : decode cX10_without 0 = .ok (.aload_n 0, 1) := by decide +kernel
theorem dX10_without_1 : decode cX10_without 1 = .ok (.getfield 12, 3) := by decide +kernel
theorem dX10_without_4 : decode cX10_without 4 = .ok (.iload_n 1, 1) := by decide +kernel
theorem dX10_without_5 : decode cX10_without 5 = .ok (.invokevirtual 97, 3) := by decide +kernel
theorem dX10_without_8 : decode cX10_without 8 = .ok (.ifCond .eq 14, 3) := by decide +kernel
theorem dX10_without_11 : decode cX10_without 11 = .ok (.aload_n 0, 1) := by decide +kernel
theorem dX10_without_12 : decode cX10_without 12 = .ok (.getfield 12, 3) := by decide +kernel
theorem dX10_without_15 : decode cX10_without 15 = .ok (.iload_n 2, 1) := by decide +kernel
theorem dX10_without_16 : decode cX10_without 16 = .ok (.invokevirtual 97, 3) := by decide +kernel
theorem dX10_without_19 : decode cX10_without 19 = .ok (.ifCond .ne 10, 3) := by decide +kernel
theorem dX10_without_22 : decode cX10_without 22 = .ok (.aload_n 0, 1) := by decide +kernel
theorem dX10_without_23 : decode cX10_without 23 = .ok (.ldc 83, 2) := by decide +kernel
theorem dX10_without_25 : decode cX10_without 25 = .ok (.invokevirtual 84, 3) := by decide +kernel
theorem dX10_without_28 : decode cX10_without 28 = .ok (.ireturn, 1) := by decide +kernel
theorem dX10_without_29 : decode cX10_without 29 = .ok (.aload_n 0, 1) := by decide +kernel
theorem dX10_without_30 : decode cX10_without 30 = .ok (.getfield 12, 3) := by decide +kernel
theorem dX10_without_33 : decode cX10_without 33 = .ok (.iload_n 1, 1) := by decide +kernel
theorem dX10_without_34 : decode cX10_without 34 = .ok (.iload_n 2, 1) := by decide +kernel
theorem dX10_without_35 : decode cX10_without 35 = .ok (.invokevirtual 232, 3) := by decide +kernel
theorem dX10_without_38 : decode cX10_without 38 = .ok (.ifCond .ne 10, 3) := by decide +kernel
theorem dX10_without_41 : decode cX10_without 41 = .ok (.aload_n 0, 1) := by decide +kernel
theorem dX10_without_42 : decode cX10_without 42 = .ok (.ldc 126, 2) := by decide +kernel
theorem dX10_without_44 : decode cX10_without 44 = .ok (.invokevirtual 84, 3) := by decide +kernel
theorem dX10_without_47 : decode cX10_without 47 = .ok (.ireturn, 1) := by decide +kernel
theorem dX10_without_48 : decode cX10_without 48 = .ok (.aload_n 0, 1) := by decide +kernel
theorem dX10_without_49 : decode cX10_without 49 = .ok (.getfield 41, 3) := by decide +kernel
theorem dX10_without_52 : decode cX10_without 52 = .ok (.iload_n 1, 1) := by decide +kernel
theorem dX10_without_53 : decode cX10_without 53 = .ok (.iload_n 2, 1) := by decide +kernel
theorem dX10_without_54 : decode cX10_without 54 = .ok (.invokevirtual 235, 3) := by decide +kernel
theorem dX10_without_57 : decode cX10_without 57 = .ok (.aload_n 0, 1) := by decide +kernel
theorem dX10_without_58 : decode cX10_without 58 = .ok (.getfield 41, 3) := by decide +kernel
theorem dX10_without_61 : decode cX10_without 61 = .ok (.invokevirtual 220, 3) := by decide +kernel
theorem dX10_without_64 : decode cX10_without 64 = .ok (.ireturn, 1) := by decide +kernel
theorem dX10_next_0 : decode cX10_next 0 = .ok (.iload_n 1, 1) := by decide +kernel
theorem dX10_next_1 : decode cX10_next 1 = .ok (.iconst 0, 1) := by decide +kernel
theorem dX10_next_2 : decode cX10_next 2 = .ok (.iconst 1, 1) := by decide +kernel
theorem dX10_next_3 : decode cX10_next 3 = .ok (.invokestatic 79, 3) := by decide +kernel
theorem dX10_next_6 : decode cX10_next 6 = .ok (.ifCond .eq 10, 3) := by decide +kernel
theorem dX10_next_9 : decode cX10_next 9 = .ok (.aload_n 0, 1) := by decide +kernel
theorem dX10_next_10 : decode cX10_next 10 = .ok (.ldc 83, 2) := by decide +kernel
theorem dX10_next_12 : decode cX10_next 12 = .ok (.invokevirtual 84, 3) := by decide +kernel
theorem dX10_next_15 : decode cX10_next 15 = .ok (.ireturn, 1) := by decide +kernel
theorem dX10_next_16 : decode cX10_next 16 = .ok (.aload_n 0, 1) := by decide +kernel
theorem dX10_next_17 : decode cX10_next 17 = .ok (.getfield 34, 3) := by decide +kernel
theorem dX10_next_20 : decode cX10_next 20 = .ok (.invokevirtual 178, 3) := by decide +kernel
theorem dX10_next_23 : decode cX10_next 23 = .ok (.aload_n 0, 1) := by decide +kernel
theorem dX10_next_24 : decode cX10_next 24 = .ok (.getfield 50, 3) := by decide +kernel
theorem dX10_next_27 : decode cX10_next 27 = .ok (.invokevirtual 239, 3) := by decide +kernel
theorem dX10_next_30 : decode cX10_next 30 = .ok (.istore_n 2, 1) := by decide +kernel
theorem dX10_next_31 : decode cX10_next 31 = .ok (.iload_n 2, 1) := by decide +kernel
theorem dX10_next_32 : decode cX10_next 32 = .ok (.ifCond .ge 10, 3) := by decide +kernel
theorem dX10_next_35 : decode cX10_next 35 = .ok (.aload_n 0, 1) := by decide +kernel
theorem dX10_next_36 : decode cX10_next 36 = .ok (.ldc 201, 2) := by decide +kernel
theorem dX10_next_38 : decode cX10_next 38 = .ok (.invokevirtual 84, 3) := by decide +kernel
theorem dX10_next_41 : decode cX10_next 41 = .ok (.ireturn, 1) := by decide +kernel
theorem dX10_next_42 : decode cX10_next 42 = .ok (.iload_n 1, 1) := by decide +kernel
theorem dX10_next_43 : decode cX10_next 43 = .ok (.ifCond .ne 7, 3) := by decide +kernel
theorem dX10_next_46 : decode cX10_next 46 = .ok (.iload_n 2, 1) := by decide +kernel
theorem dX10_next_47 : decode cX10_next 47 = .ok (.goto 10, 3) := by decide +kernel
theorem dX10_next_50 : decode cX10_next 50 = .ok (.aload_n 0, 1) := by decide +kernel
theorem dX10_next_51 : decode cX10_next 51 = .ok (.getfield 50, 3) := by decide +kernel
theorem dX10_next_54 : decode cX10_next 54 = .ok (.getfield 242, 3) := by decide +kernel
theorem dX10_next_57 : decode cX10_next 57 = .ok (.ireturn, 1) := by decide +kernel
theorem dX10_rounds_0 : decode cX10_rounds 0 = .ok (.aload_n 0, 1) := by decide +kernel
theorem dX10_rounds_1 : decode cX10_rounds 1 = .ok (.getfield 12, 3) := by decide +kernel
theorem dX10_rounds_4 : decode cX10_rounds 4 = .ok (.getfield 245, 3) := by decide +kernel
theorem dX10_rounds_7 : decode cX10_rounds 7 = .ok (.bipush 8, 2) := by decide +kernel
theorem dX10_rounds_9 : decode cX10_rounds 9 = .ok (.if_icmp .gt 15, 3) := by decide +kernel
theorem dX10_rounds_12 : decode cX10_rounds 12 = .ok (.aload_n 0, 1) := by decide +kernel
theorem dX10_rounds_13 : decode cX10_rounds 13 = .ok (.getfield 12, 3) := by decide +kernel
theorem dX10_rounds_16 : decode cX10_rounds 16 = .ok (.invokevirtual 248, 3) := by decide +kernel
theorem dX10_rounds_19 : decode cX10_rounds 19 = .ok (.bipush 24, 2) := by decide +kernel
theorem dX10_rounds_21 : decode cX10_rounds 21 = .ok (.if_icmp .le 10, 3) := by decide +kernel
theorem dX10_rounds_24 : decode cX10_rounds 24 = .ok (.aload_n 0, 1) := by decide +kernel
theorem dX10_rounds_25 : decode cX10_rounds 25 = .ok (.ldc 92, 2) := by decide +kernel
theorem dX10_rounds_27 : decode cX10_rounds 27 = .ok (.invokevirtual 84, 3) := by decide +kernel
theorem dX10_rounds_30 : decode cX10_rounds 30 = .ok (.ireturn, 1) := by decide +kernel
theorem dX10_rounds_31 : decode cX10_rounds 31 = .ok (.aload_n 0, 1) := by decide +kernel
theorem dX10_rounds_32 : decode cX10_rounds 32 = .ok (.getfield 34, 3) := by decide +kernel
theorem dX10_rounds_35 : decode cX10_rounds 35 = .ok (.invokevirtual 178, 3) := by decide +kernel
theorem dX10_rounds_38 : decode cX10_rounds 38 = .ok (.aload_n 0, 1) := by decide +kernel
theorem dX10_rounds_39 : decode cX10_rounds 39 = .ok (.getfield 50, 3) := by decide +kernel
theorem dX10_rounds_42 : decode cX10_rounds 42 = .ok (.invokevirtual 251, 3) := by decide +kernel
theorem dX10_rounds_45 : decode cX10_rounds 45 = .ok (.istore_n 1, 1) := by decide +kernel
theorem dX10_rounds_46 : decode cX10_rounds 46 = .ok (.iload_n 1, 1) := by decide +kernel
theorem dX10_rounds_47 : decode cX10_rounds 47 = .ok (.ifCond .ge 12, 3) := by decide +kernel
theorem dX10_rounds_50 : decode cX10_rounds 50 = .ok (.aload_n 0, 1) := by decide +kernel
theorem dX10_rounds_51 : decode cX10_rounds 51 = .ok (.ldc 201, 2) := by decide +kernel
theorem dX10_rounds_53 : decode cX10_rounds 53 = .ok (.invokevirtual 84, 3) := by decide +kernel
theorem dX10_rounds_56 : decode cX10_rounds 56 = .ok (.goto 4, 3) := by decide +kernel
theorem dX10_rounds_59 : decode cX10_rounds 59 = .ok (.iload_n 1, 1) := by decide +kernel
theorem dX10_rounds_60 : decode cX10_rounds 60 = .ok (.ireturn, 1) := by decide +kernel
theorem dX10_likely_0 : decode cX10_likely 0 = .ok (.aload_n 0, 1) := by decide +kernel
theorem dX10_likely_1 : decode cX10_likely 1 = .ok (.getfield 34, 3) := by decide +kernel
theorem dX10_likely_4 : decode cX10_likely 4 = .ok (.invokevirtual 178, 3) := by decide +kernel
theorem dX10_likely_7 : decode cX10_likely 7 = .ok (.aload_n 0, 1) := by decide +kernel
theorem dX10_likely_8 : decode cX10_likely 8 = .ok (.getfield 34, 3) := by decide +kernel
theorem dX10_likely_11 : decode cX10_likely 11 = .ok (.getfield 195, 3) := by decide +kernel
theorem dX10_likely_14 : decode cX10_likely 14 = .ok (.ifCond .ne 10, 3) := by decide +kernel
theorem dX10_likely_17 : decode cX10_likely 17 = .ok (.aload_n 0, 1) := by decide +kernel
theorem dX10_likely_18 : decode cX10_likely 18 = .ok (.ldc 201, 2) := by decide +kernel
theorem dX10_likely_20 : decode cX10_likely 20 = .ok (.invokevirtual 84, 3) := by decide +kernel
theorem dX10_likely_23 : decode cX10_likely 23 = .ok (.ireturn, 1) := by decide +kernel
theorem dX10_likely_24 : decode cX10_likely 24 = .ok (.aload_n 0, 1) := by decide +kernel
theorem dX10_likely_25 : decode cX10_likely 25 = .ok (.getfield 34, 3) := by decide +kernel
theorem dX10_likely_28 : decode cX10_likely 28 = .ok (.invokevirtual 254, 3) := by decide +kernel
theorem dX10_likely_31 : decode cX10_likely 31 = .ok (.ireturn, 1) := by decide +kernel
theorem dX10_chance_0 : decode cX10_chance 0 = .ok (.aload_n 0, 1) := by decide +kernel
theorem dX10_chance_1 : decode cX10_chance 1 = .ok (.getfield 12, 3) := by decide +kernel
theorem dX10_chance_4 : decode cX10_chance 4 = .ok (.iload_n 1, 1) := by decide +kernel
theorem dX10_chance_5 : decode cX10_chance 5 = .ok (.invokevirtual 97, 3) := by decide +kernel
theorem dX10_chance_8 : decode cX10_chance 8 = .ok (.ifCond .eq 12, 3) := by decide +kernel
theorem dX10_chance_11 : decode cX10_chance 11 = .ok (.iload_n 2, 1) := by decide +kernel
theorem dX10_chance_12 : decode cX10_chance 12 = .ok (.iconst 0, 1) := by decide +kernel
theorem dX10_chance_13 : decode cX10_chance 13 = .ok (.iconst 1, 1) := by decide +kernel
theorem dX10_chance_14 : decode cX10_chance 14 = .ok (.invokestatic 79, 3) := by decide +kernel
theorem dX10_chance_17 : decode cX10_chance 17 = .ok (.ifCond .eq 11, 3) := by decide +kernel
theorem dX10_chance_20 : decode cX10_chance 20 = .ok (.aload_n 0, 1) := by decide +kernel
theorem dX10_chance_21 : decode cX10_chance 21 = .ok (.ldc 83, 2) := by decide +kernel
theorem dX10_chance_23 : decode cX10_chance 23 = .ok (.invokevirtual 84, 3) := by decide +kernel
theorem dX10_chance_26 : decode cX10_chance 26 = .ok (.i2l, 1) := by decide +kernel
theorem dX10_chance_27 : decode cX10_chance 27 = .ok (.lreturn, 1) := by decide +kernel
theorem dX10_chance_28 : decode cX10_chance 28 = .ok (.aload_n 0, 1) := by decide +kernel
theorem dX10_chance_29 : decode cX10_chance 29 = .ok (.getfield 34, 3) := by decide +kernel
theorem dX10_chance_32 : decode cX10_chance 32 = .ok (.invokevirtual 178, 3) := by decide +kernel
theorem dX10_chance_35 : decode cX10_chance 35 = .ok (.aload_n 0, 1) := by decide +kernel
theorem dX10_chance_36 : decode cX10_chance 36 = .ok (.getfield 34, 3) := by decide +kernel
theorem dX10_chance_39 : decode cX10_chance 39 = .ok (.getfield 195, 3) := by decide +kernel
theorem dX10_chance_42 : decode cX10_chance 42 = .ok (.ifCond .ne 11, 3) := by decide +kernel
theorem dX10_chance_45 : decode cX10_chance 45 = .ok (.aload_n 0, 1) := by decide +kernel
theorem dX10_chance_46 : decode cX10_chance 46 = .ok (.ldc 201, 2) := by decide +kernel
theorem dX10_chance_48 : decode cX10_chance 48 = .ok (.invokevirtual 84, 3) := by decide +kernel
theorem dX10_chance_51 : decode cX10_chance 51 = .ok (.i2l, 1) := by decide +kernel
theorem dX10_chance_52 : decode cX10_chance 52 = .ok (.lreturn, 1) := by decide +kernel
theorem dX10_chance_53 : decode cX10_chance 53 = .ok (.aload_n 0, 1) := by decide +kernel
theorem dX10_chance_54 : decode cX10_chance 54 = .ok (.getfield 34, 3) := by decide +kernel
theorem dX10_chance_57 : decode cX10_chance 57 = .ok (.iconst 1, 1) := by decide +kernel
theorem dX10_chance_58 : decode cX10_chance 58 = .ok (.iload_n 1, 1) := by decide +kernel
theorem dX10_chance_59 : decode cX10_chance 59 = .ok (.ishl, 1) := by decide +kernel
theorem dX10_chance_60 : decode cX10_chance 60 = .ok (.invokevirtual 257, 3) := by decide +kernel
theorem dX10_chance_63 : decode cX10_chance 63 = .ok (.lstore_n 3, 1) := by decide +kernel
theorem dX10_chance_64 : decode cX10_chance 64 = .ok (.aload_n 0, 1) := by decide +kernel
theorem dX10_chance_65 : decode cX10_chance 65 = .ok (.getfield 34, 3) := by decide +kernel
theorem dX10_chance_68 : decode cX10_chance 68 = .ok (.iconst 0, 1) := by decide +kernel
theorem dX10_chance_69 : decode cX10_chance 69 = .ok (.invokevirtual 257, 3) := by decide +kernel
theorem dX10_chance_72 : decode cX10_chance 72 = .ok (.lstore 5, 2) := by decide +kernel
theorem dX10_chance_74 : decode cX10_chance 74 = .ok (.lload 5, 2) := by decide +kernel
theorem dX10_chance_76 : decode cX10_chance 76 = .ok (.lload_n 3, 1) := by decide +kernel
theorem dX10_chance_77 : decode cX10_chance 77 = .ok (.invokestatic 261, 3) := by decide +kernel
theorem dX10_chance_80 : decode cX10_chance 80 = .ok (.lstore 7, 2) := by decide +kernel
theorem dX10_chance_82 : decode cX10_chance 82 = .ok (.lload 7, 2) := by decide +kernel
theorem dX10_chance_84 : decode cX10_chance 84 = .ok (.lconst 0, 1) := by decide +kernel
theorem dX10_chance_85 : decode cX10_chance 85 = .ok (.lcmp, 1) := by decide +kernel
theorem dX10_chance_86 : decode cX10_chance 86 = .ok (.ifCond .ne 5, 3) := by decide +kernel
theorem dX10_chance_89 : decode cX10_chance 89 = .ok (.lconst 0, 1) := by decide +kernel
theorem dX10_chance_90 : decode cX10_chance 90 = .ok (.lreturn, 1) := by decide +kernel
theorem dX10_chance_91 : decode cX10_chance 91 = .ok (.iload_n 2, 1) := by decide +kernel
theorem dX10_chance_92 : decode cX10_chance 92 = .ok (.ifCond .ne 10, 3) := by decide +kernel
theorem dX10_chance_95 : decode cX10_chance 95 = .ok (.lload_n 3, 1) := by decide +kernel
theorem dX10_chance_96 : decode cX10_chance 96 = .ok (.lload 7, 2) := by decide +kernel
theorem dX10_chance_98 : decode cX10_chance 98 = .ok (.ldiv, 1) := by decide +kernel
theorem dX10_chance_99 : decode cX10_chance 99 = .ok (.goto 8, 3) := by decide +kernel
theorem dX10_chance_102 : decode cX10_chance 102 = .ok (.lload 5, 2) := by decide +kernel
theorem dX10_chance_104 : decode cX10_chance 104 = .ok (.lload 7, 2) := by decide +kernel
theorem dX10_chance_106 : decode cX10_chance 106 = .ok (.ldiv, 1) := by decide +kernel
theorem dX10_chance_107 : decode cX10_chance 107 = .ok (.lreturn, 1) := by decide +kernel
theorem dX10_worst_0 : decode cX10_worst 0 = .ok (.aload_n 0, 1) := by decide +kernel
theorem dX10_worst_1 : decode cX10_worst 1 = .ok (.getfield 12, 3) := by decide +kernel
theorem dX10_worst_4 : decode cX10_worst 4 = .ok (.iload_n 1, 1) := by decide +kernel
theorem dX10_worst_5 : decode cX10_worst 5 = .ok (.invokevirtual 175, 3) := by decide +kernel
theorem dX10_worst_8 : decode cX10_worst 8 = .ok (.ifCond .eq 12, 3) := by decide +kernel
theorem dX10_worst_11 : decode cX10_worst 11 = .ok (.iload_n 2, 1) := by decide +kernel
theorem dX10_worst_12 : decode cX10_worst 12 = .ok (.iconst 0, 1) := by decide +kernel
theorem dX10_worst_13 : decode cX10_worst 13 = .ok (.iconst 1, 1) := by decide +kernel
theorem dX10_worst_14 : decode cX10_worst 14 = .ok (.invokestatic 79, 3) := by decide +kernel
theorem dX10_worst_17 : decode cX10_worst 17 = .ok (.ifCond .eq 10, 3) := by decide +kernel
theorem dX10_worst_20 : decode cX10_worst 20 = .ok (.aload_n 0, 1) := by decide +kernel
theorem dX10_worst_21 : decode cX10_worst 21 = .ok (.ldc 83, 2) := by decide +kernel
theorem dX10_worst_23 : decode cX10_worst 23 = .ok (.invokevirtual 84, 3) := by decide +kernel
theorem dX10_worst_26 : decode cX10_worst 26 = .ok (.ireturn, 1) := by decide +kernel
theorem dX10_worst_27 : decode cX10_worst 27 = .ok (.aload_n 0, 1) := by decide +kernel
theorem dX10_worst_28 : decode cX10_worst 28 = .ok (.getfield 57, 3) := by decide +kernel
theorem dX10_worst_31 : decode cX10_worst 31 = .ok (.iload_n 1, 1) := by decide +kernel
theorem dX10_worst_32 : decode cX10_worst 32 = .ok (.invokevirtual 265, 3) := by decide +kernel
theorem dX10_worst_35 : decode cX10_worst 35 = .ok (.bipush 8, 2) := by decide +kernel
theorem dX10_worst_37 : decode cX10_worst 37 = .ok (.if_icmp .le 10, 3) := by decide +kernel
theorem dX10_worst_40 : decode cX10_worst 40 = .ok (.aload_n 0, 1) := by decide +kernel
theorem dX10_worst_41 : decode cX10_worst 41 = .ok (.ldc 92, 2) := by decide +kernel
theorem dX10_worst_43 : decode cX10_worst 43 = .ok (.invokevirtual 84, 3) := by decide +kernel
theorem dX10_worst_46 : decode cX10_worst 46 = .ok (.ireturn, 1) := by decide +kernel
theorem dX10_worst_47 : decode cX10_worst 47 = .ok (.aload_n 0, 1) := by decide +kernel
theorem dX10_worst_48 : decode cX10_worst 48 = .ok (.getfield 57, 3) := by decide +kernel
theorem dX10_worst_51 : decode cX10_worst 51 = .ok (.iload_n 1, 1) := by decide +kernel
theorem dX10_worst_52 : decode cX10_worst 52 = .ok (.invokevirtual 268, 3) := by decide +kernel
theorem dX10_worst_55 : decode cX10_worst 55 = .ok (.iload_n 2, 1) := by decide +kernel
theorem dX10_worst_56 : decode cX10_worst 56 = .ok (.ifCond .ne 13, 3) := by decide +kernel
theorem dX10_worst_59 : decode cX10_worst 59 = .ok (.aload_n 0, 1) := by decide +kernel
theorem dX10_worst_60 : decode cX10_worst 60 = .ok (.getfield 57, 3) := by decide +kernel
theorem dX10_worst_63 : decode cX10_worst 63 = .ok (.getfield 271, 3) := by decide +kernel
theorem dX10_worst_66 : decode cX10_worst 66 = .ok (.goto 10, 3) := by decide +kernel
theorem dX10_worst_69 : decode cX10_worst 69 = .ok (.aload_n 0, 1) := by decide +kernel
theorem dX10_worst_70 : decode cX10_worst 70 = .ok (.getfield 57, 3) := by decide +kernel
theorem dX10_worst_73 : decode cX10_worst 73 = .ok (.getfield 273, 3) := by decide +kernel
theorem dX10_worst_76 : decode cX10_worst 76 = .ok (.ireturn, 1) := by decide +kernel
theorem dX10_mend_0 : decode cX10_mend 0 = .ok (.iload_n 1, 1) := by decide +kernel
theorem dX10_mend_1 : decode cX10_mend 1 = .ok (.iconst 0, 1) := by decide +kernel
theorem dX10_mend_2 : decode cX10_mend 2 = .ok (.sipush 9999, 3) := by decide +kernel
theorem dX10_mend_5 : decode cX10_mend 5 = .ok (.invokestatic 79, 3) := by decide +kernel
theorem dX10_mend_8 : decode cX10_mend 8 = .ok (.ifCond .eq 10, 3) := by decide +kernel
theorem dX10_mend_11 : decode cX10_mend 11 = .ok (.aload_n 0, 1) := by decide +kernel
theorem dX10_mend_12 : decode cX10_mend 12 = .ok (.ldc 83, 2) := by decide +kernel
theorem dX10_mend_14 : decode cX10_mend 14 = .ok (.invokevirtual 84, 3) := by decide +kernel
theorem dX10_mend_17 : decode cX10_mend 17 = .ok (.ireturn, 1) := by decide +kernel
theorem dX10_mend_18 : decode cX10_mend 18 = .ok (.aload_n 0, 1) := by decide +kernel
theorem dX10_mend_19 : decode cX10_mend 19 = .ok (.getfield 34, 3) := by decide +kernel
theorem dX10_mend_22 : decode cX10_mend 22 = .ok (.invokevirtual 178, 3) := by decide +kernel
theorem dX10_mend_25 : decode cX10_mend 25 = .ok (.aload_n 0, 1) := by decide +kernel
theorem dX10_mend_26 : decode cX10_mend 26 = .ok (.getfield 34, 3) := by decide +kernel
theorem dX10_mend_29 : decode cX10_mend 29 = .ok (.iload_n 1, 1) := by decide +kernel
theorem dX10_mend_30 : decode cX10_mend 30 = .ok (.invokevirtual 276, 3) := by decide +kernel
theorem dX10_mend_33 : decode cX10_mend 33 = .ok (.ireturn, 1) := by decide +kernel
theorem dX10_mended_0 : decode cX10_mended 0 = .ok (.aload_n 0, 1) := by decide +kernel
theorem dX10_mended_1 : decode cX10_mended 1 = .ok (.getfield 12, 3) := by decide +kernel
theorem dX10_mended_4 : decode cX10_mended 4 = .ok (.iload_n 1, 1) := by decide +kernel
theorem dX10_mended_5 : decode cX10_mended 5 = .ok (.invokevirtual 97, 3) := by decide +kernel
theorem dX10_mended_8 : decode cX10_mended 8 = .ok (.ifCond .ne 10, 3) := by decide +kernel
theorem dX10_mended_11 : decode cX10_mended 11 = .ok (.aload_n 0, 1) := by decide +kernel
theorem dX10_mended_12 : decode cX10_mended 12 = .ok (.ldc 83, 2) := by decide +kernel
theorem dX10_mended_14 : decode cX10_mended 14 = .ok (.invokevirtual 84, 3) := by decide +kernel
theorem dX10_mended_17 : decode cX10_mended 17 = .ok (.ireturn, 1) := by decide +kernel
theorem dX10_mended_18 : decode cX10_mended 18 = .ok (.aload_n 0, 1) := by decide +kernel
theorem dX10_mended_19 : decode cX10_mended 19 = .ok (.getfield 12, 3) := by decide +kernel
theorem dX10_mended_22 : decode cX10_mended 22 = .ok (.iload_n 1, 1) := by decide +kernel
theorem dX10_mended_23 : decode cX10_mended 23 = .ok (.invokevirtual 279, 3) := by decide +kernel
theorem dX10_mended_26 : decode cX10_mended 26 = .ok (.ireturn, 1) := by decide +kernel
theorem dX10_voice_0 : decode cX10_voice 0 = .ok (.aload_n 0, 1) := by decide +kernel
theorem dX10_voice_1 : decode cX10_voice 1 = .ok (.getfield 12, 3) := by decide +kernel
theorem dX10_voice_4 : decode cX10_voice 4 = .ok (.iload_n 1, 1) := by decide +kernel
theorem dX10_voice_5 : decode cX10_voice 5 = .ok (.invokevirtual 97, 3) := by decide +kernel
theorem dX10_voice_8 : decode cX10_voice 8 = .ok (.ifCond .eq 12, 3) := by decide +kernel
theorem dX10_voice_11 : decode cX10_voice 11 = .ok (.iload_n 2, 1) := by decide +kernel
theorem dX10_voice_12 : decode cX10_voice 12 = .ok (.iconst 0, 1) := by decide +kernel
theorem dX10_voice_13 : decode cX10_voice 13 = .ok (.iconst 3, 1) := by decide +kernel
theorem dX10_voice_14 : decode cX10_voice 14 = .ok (.invokestatic 79, 3) := by decide +kernel
theorem dX10_voice_17 : decode cX10_voice 17 = .ok (.ifCond .eq 10, 3) := by decide +kernel
theorem dX10_voice_20 : decode cX10_voice 20 = .ok (.aload_n 0, 1) := by decide +kernel
theorem dX10_voice_21 : decode cX10_voice 21 = .ok (.ldc 83, 2) := by decide +kernel
theorem dX10_voice_23 : decode cX10_voice 23 = .ok (.invokevirtual 84, 3) := by decide +kernel
theorem dX10_voice_26 : decode cX10_voice 26 = .ok (.ireturn, 1) := by decide +kernel
theorem dX10_voice_27 : decode cX10_voice 27 = .ok (.aload_n 0, 1) := by decide +kernel
theorem dX10_voice_28 : decode cX10_voice 28 = .ok (.getfield 64, 3) := by decide +kernel
theorem dX10_voice_31 : decode cX10_voice 31 = .ok (.aload_n 0, 1) := by decide +kernel
theorem dX10_voice_32 : decode cX10_voice 32 = .ok (.getfield 12, 3) := by decide +kernel
theorem dX10_voice_35 : decode cX10_voice 35 = .ok (.iload_n 1, 1) := by decide +kernel
theorem dX10_voice_36 : decode cX10_voice 36 = .ok (.iload_n 2, 1) := by decide +kernel
theorem dX10_voice_37 : decode cX10_voice 37 = .ok (.iload_n 3, 1) := by decide +kernel
theorem dX10_voice_38 : decode cX10_voice 38 = .ok (.invokevirtual 282, 3) := by decide +kernel
theorem dX10_voice_41 : decode cX10_voice 41 = .ok (.istore 4, 2) := by decide +kernel
theorem dX10_voice_43 : decode cX10_voice 43 = .ok (.aload_n 0, 1) := by decide +kernel
theorem dX10_voice_44 : decode cX10_voice 44 = .ok (.getfield 64, 3) := by decide +kernel
theorem dX10_voice_47 : decode cX10_voice 47 = .ok (.getfield 286, 3) := by decide +kernel
theorem dX10_voice_50 : decode cX10_voice 50 = .ok (.ifCond .eq 13, 3) := by decide +kernel
theorem dX10_voice_53 : decode cX10_voice 53 = .ok (.aload_n 0, 1) := by decide +kernel
theorem dX10_voice_54 : decode cX10_voice 54 = .ok (.ldc_w 290, 3) := by decide +kernel
theorem dX10_voice_57 : decode cX10_voice 57 = .ok (.invokevirtual 84, 3) := by decide +kernel
theorem dX10_voice_60 : decode cX10_voice 60 = .ok (.goto 5, 3) := by decide +kernel
theorem dX10_voice_63 : decode cX10_voice 63 = .ok (.iload 4, 2) := by decide +kernel
theorem dX10_voice_65 : decode cX10_voice 65 = .ok (.ireturn, 1) := by decide +kernel
theorem dX10_body_0 : decode cX10_body 0 = .ok (.iload_n 1, 1) := by decide +kernel
theorem dX10_body_1 : decode cX10_body 1 = .ok (.iconst 0, 1) := by decide +kernel
theorem dX10_body_2 : decode cX10_body 2 = .ok (.aload_n 0, 1) := by decide +kernel
theorem dX10_body_3 : decode cX10_body 3 = .ok (.getfield 64, 3) := by decide +kernel
theorem dX10_body_6 : decode cX10_body 6 = .ok (.getfield 291, 3) := by decide +kernel
theorem dX10_body_9 : decode cX10_body 9 = .ok (.iconst 1, 1) := by decide +kernel
theorem dX10_body_10 : decode cX10_body 10 = .ok (.isub, 1) := by decide +kernel
theorem dX10_body_11 : decode cX10_body 11 = .ok (.invokestatic 79, 3) := by decide +kernel
theorem dX10_body_14 : decode cX10_body 14 = .ok (.ifCond .eq 10, 3) := by decide +kernel
theorem dX10_body_17 : decode cX10_body 17 = .ok (.aload_n 0, 1) := by decide +kernel
theorem dX10_body_18 : decode cX10_body 18 = .ok (.ldc 201, 2) := by decide +kernel
theorem dX10_body_20 : decode cX10_body 20 = .ok (.invokevirtual 84, 3) := by decide +kernel
theorem dX10_body_23 : decode cX10_body 23 = .ok (.ireturn, 1) := by decide +kernel
theorem dX10_body_24 : decode cX10_body 24 = .ok (.aload_n 0, 1) := by decide +kernel
theorem dX10_body_25 : decode cX10_body 25 = .ok (.getfield 64, 3) := by decide +kernel
theorem dX10_body_28 : decode cX10_body 28 = .ok (.getfield 294, 3) := by decide +kernel
theorem dX10_body_31 : decode cX10_body 31 = .ok (.iload_n 1, 1) := by decide +kernel
theorem dX10_body_32 : decode cX10_body 32 = .ok (.iaload, 1) := by decide +kernel
theorem dX10_body_33 : decode cX10_body 33 = .ok (.ireturn, 1) := by decide +kernel
theorem dX10_sheet_0 : decode cX10_sheet 0 = .ok (.iload_n 1, 1) := by decide +kernel
theorem dX10_sheet_1 : decode cX10_sheet 1 = .ok (.iconst 0, 1) := by decide +kernel
theorem dX10_sheet_2 : decode cX10_sheet 2 = .ok (.iconst 3, 1) := by decide +kernel
theorem dX10_sheet_3 : decode cX10_sheet 3 = .ok (.invokestatic 79, 3) := by decide +kernel
theorem dX10_sheet_6 : decode cX10_sheet 6 = .ok (.ifCond .ne 10, 3) := by decide +kernel
theorem dX10_sheet_9 : decode cX10_sheet 9 = .ok (.iload_n 2, 1) := by decide +kernel
theorem dX10_sheet_10 : decode cX10_sheet 10 = .ok (.invokestatic 297, 3) := by decide +kernel
theorem dX10_sheet_13 : decode cX10_sheet 13 = .ok (.ifCond .ne 10, 3) := by decide +kernel
theorem dX10_sheet_16 : decode cX10_sheet 16 = .ok (.aload_n 0, 1) := by decide +kernel
theorem dX10_sheet_17 : decode cX10_sheet 17 = .ok (.ldc 83, 2) := by decide +kernel
theorem dX10_sheet_19 : decode cX10_sheet 19 = .ok (.invokevirtual 84, 3) := by decide +kernel
theorem dX10_sheet_22 : decode cX10_sheet 22 = .ok (.ireturn, 1) := by decide +kernel
theorem dX10_sheet_23 : decode cX10_sheet 23 = .ok (.iload_n 2, 1) := by decide +kernel
theorem dX10_sheet_24 : decode cX10_sheet 24 = .ok (.ifCond .ne 16, 3) := by decide +kernel
theorem dX10_sheet_27 : decode cX10_sheet 27 = .ok (.aload_n 0, 1) := by decide +kernel
theorem dX10_sheet_28 : decode cX10_sheet 28 = .ok (.getfield 70, 3) := by decide +kernel
theorem dX10_sheet_31 : decode cX10_sheet 31 = .ok (.iload_n 1, 1) := by decide +kernel
theorem dX10_sheet_32 : decode cX10_sheet 32 = .ok (.aaload, 1) := by decide +kernel
theorem dX10_sheet_33 : decode cX10_sheet 33 = .ok (.iconst 0, 1) := by decide +kernel
theorem dX10_sheet_34 : decode cX10_sheet 34 = .ok (.iconst 0, 1) := by decide +kernel
theorem dX10_sheet_35 : decode cX10_sheet 35 = .ok (.invokevirtual 300, 3) := by decide +kernel
theorem dX10_sheet_38 : decode cX10_sheet 38 = .ok (.iconst 1, 1) := by decide +kernel
theorem dX10_sheet_39 : decode cX10_sheet 39 = .ok (.ireturn, 1) := by decide +kernel
theorem dX10_sheet_40 : decode cX10_sheet 40 = .ok (.iload_n 3, 1) := by decide +kernel
theorem dX10_sheet_41 : decode cX10_sheet 41 = .ok (.ifCond .ge 10, 3) := by decide +kernel
theorem dX10_sheet_44 : decode cX10_sheet 44 = .ok (.aload_n 0, 1) := by decide +kernel
theorem dX10_sheet_45 : decode cX10_sheet 45 = .ok (.ldc 126, 2) := by decide +kernel
theorem dX10_sheet_47 : decode cX10_sheet 47 = .ok (.invokevirtual 84, 3) := by decide +kernel
theorem dX10_sheet_50 : decode cX10_sheet 50 = .ok (.ireturn, 1) := by decide +kernel
theorem dX10_sheet_51 : decode cX10_sheet 51 = .ok (.iload_n 3, 1) := by decide +kernel
theorem dX10_sheet_52 : decode cX10_sheet 52 = .ok (.bipush 24, 2) := by decide +kernel
theorem dX10_sheet_54 : decode cX10_sheet 54 = .ok (.if_icmp .le 10, 3) := by decide +kernel
theorem dX10_sheet_57 : decode cX10_sheet 57 = .ok (.aload_n 0, 1) := by decide +kernel
theorem dX10_sheet_58 : decode cX10_sheet 58 = .ok (.ldc 83, 2) := by decide +kernel
theorem dX10_sheet_60 : decode cX10_sheet 60 = .ok (.invokevirtual 84, 3) := by decide +kernel
theorem dX10_sheet_63 : decode cX10_sheet 63 = .ok (.ireturn, 1) := by decide +kernel
theorem dX10_sheet_64 : decode cX10_sheet 64 = .ok (.aload_n 0, 1) := by decide +kernel
theorem dX10_sheet_65 : decode cX10_sheet 65 = .ok (.getfield 70, 3) := by decide +kernel
theorem dX10_sheet_68 : decode cX10_sheet 68 = .ok (.iload_n 1, 1) := by decide +kernel
theorem dX10_sheet_69 : decode cX10_sheet 69 = .ok (.aaload, 1) := by decide +kernel
theorem dX10_sheet_70 : decode cX10_sheet 70 = .ok (.iload_n 2, 1) := by decide +kernel
theorem dX10_sheet_71 : decode cX10_sheet 71 = .ok (.iload_n 3, 1) := by decide +kernel
theorem dX10_sheet_72 : decode cX10_sheet 72 = .ok (.invokevirtual 300, 3) := by decide +kernel
theorem dX10_sheet_75 : decode cX10_sheet 75 = .ok (.iconst 1, 1) := by decide +kernel
theorem dX10_sheet_76 : decode cX10_sheet 76 = .ok (.ireturn, 1) := by decide +kernel
theorem dX10_put_0 : decode cX10_put 0 = .ok (.aload_n 0, 1) := by decide +kernel
theorem dX10_put_1 : decode cX10_put 1 = .ok (.iload_n 1, 1) := by decide +kernel
theorem dX10_put_2 : decode cX10_put 2 = .ok (.invokevirtual 303, 3) := by decide +kernel
theorem dX10_put_5 : decode cX10_put 5 = .ok (.istore 4, 2) := by decide +kernel
theorem dX10_put_7 : decode cX10_put 7 = .ok (.iload 4, 2) := by decide +kernel
theorem dX10_put_9 : decode cX10_put 9 = .ok (.ifCond .eq 10, 3) := by decide +kernel
theorem dX10_put_12 : decode cX10_put 12 = .ok (.aload_n 0, 1) := by decide +kernel
theorem dX10_put_13 : decode cX10_put 13 = .ok (.iload 4, 2) := by decide +kernel
theorem dX10_put_15 : decode cX10_put 15 = .ok (.invokevirtual 84, 3) := by decide +kernel
theorem dX10_put_18 : decode cX10_put 18 = .ok (.ireturn, 1) := by decide +kernel
theorem dX10_put_19 : decode cX10_put 19 = .ok (.iload_n 2, 1) := by decide +kernel
theorem dX10_put_20 : decode cX10_put 20 = .ok (.iconst 0, 1) := by decide +kernel
theorem dX10_put_21 : decode cX10_put 21 = .ok (.aload_n 0, 1) := by decide +kernel
theorem dX10_put_22 : decode cX10_put 22 = .ok (.getfield 70, 3) := by decide +kernel
theorem dX10_put_25 : decode cX10_put 25 = .ok (.iload_n 1, 1) := by decide +kernel
theorem dX10_put_26 : decode cX10_put 26 = .ok (.aaload, 1) := by decide +kernel
theorem dX10_put_27 : decode cX10_put 27 = .ok (.getfield 306, 3) := by decide +kernel
theorem dX10_put_30 : decode cX10_put 30 = .ok (.iconst 1, 1) := by decide +kernel
theorem dX10_put_31 : decode cX10_put 31 = .ok (.isub, 1) := by decide +kernel
theorem dX10_put_32 : decode cX10_put 32 = .ok (.invokestatic 79, 3) := by decide +kernel
theorem dX10_put_35 : decode cX10_put 35 = .ok (.ifCond .eq 10, 3) := by decide +kernel
theorem dX10_put_38 : decode cX10_put 38 = .ok (.aload_n 0, 1) := by decide +kernel
theorem dX10_put_39 : decode cX10_put 39 = .ok (.ldc 83, 2) := by decide +kernel
theorem dX10_put_41 : decode cX10_put 41 = .ok (.invokevirtual 84, 3) := by decide +kernel
theorem dX10_put_44 : decode cX10_put 44 = .ok (.ireturn, 1) := by decide +kernel
theorem dX10_put_45 : decode cX10_put 45 = .ok (.aload_n 0, 1) := by decide +kernel
theorem dX10_put_46 : decode cX10_put 46 = .ok (.getfield 70, 3) := by decide +kernel
theorem dX10_put_49 : decode cX10_put 49 = .ok (.iload_n 1, 1) := by decide +kernel
theorem dX10_put_50 : decode cX10_put 50 = .ok (.aaload, 1) := by decide +kernel
theorem dX10_put_51 : decode cX10_put 51 = .ok (.iload_n 2, 1) := by decide +kernel
theorem dX10_put_52 : decode cX10_put 52 = .ok (.iload_n 3, 1) := by decide +kernel
theorem dX10_put_53 : decode cX10_put 53 = .ok (.invokevirtual 309, 3) := by decide +kernel
theorem dX10_put_56 : decode cX10_put 56 = .ok (.iconst 1, 1) := by decide +kernel
theorem dX10_put_57 : decode cX10_put 57 = .ok (.ireturn, 1) := by decide +kernel
theorem dX10_move_0 : decode cX10_move 0 = .ok (.iload_n 1, 1) := by decide +kernel
theorem dX10_move_1 : decode cX10_move 1 = .ok (.iconst 0, 1) := by decide +kernel
theorem dX10_move_2 : decode cX10_move 2 = .ok (.iconst 3, 1) := by decide +kernel
theorem dX10_move_3 : decode cX10_move 3 = .ok (.invokestatic 79, 3) := by decide +kernel
theorem dX10_move_6 : decode cX10_move 6 = .ok (.ifCond .ne 12, 3) := by decide +kernel
theorem dX10_move_9 : decode cX10_move 9 = .ok (.iload_n 3, 1) := by decide +kernel
theorem dX10_move_10 : decode cX10_move 10 = .ok (.iconst 0, 1) := by decide +kernel
theorem dX10_move_11 : decode cX10_move 11 = .ok (.iconst 3, 1) := by decide +kernel
theorem dX10_move_12 : decode cX10_move 12 = .ok (.invokestatic 79, 3) := by decide +kernel
theorem dX10_move_15 : decode cX10_move 15 = .ok (.ifCond .eq 10, 3) := by decide +kernel
theorem dX10_move_18 : decode cX10_move 18 = .ok (.aload_n 0, 1) := by decide +kernel
theorem dX10_move_19 : decode cX10_move 19 = .ok (.ldc 83, 2) := by decide +kernel
theorem dX10_move_21 : decode cX10_move 21 = .ok (.invokevirtual 84, 3) := by decide +kernel
theorem dX10_move_24 : decode cX10_move 24 = .ok (.ireturn, 1) := by decide +kernel
theorem dX10_move_25 : decode cX10_move 25 = .ok (.aload_n 0, 1) := by decide +kernel
theorem dX10_move_26 : decode cX10_move 26 = .ok (.getfield 70, 3) := by decide +kernel
theorem dX10_move_29 : decode cX10_move 29 = .ok (.iload_n 1, 1) := by decide +kernel
theorem dX10_move_30 : decode cX10_move 30 = .ok (.aaload, 1) := by decide +kernel
theorem dX10_move_31 : decode cX10_move 31 = .ok (.astore 6, 2) := by decide +kernel
theorem dX10_move_33 : decode cX10_move 33 = .ok (.aload_n 0, 1) := by decide +kernel
theorem dX10_move_34 : decode cX10_move 34 = .ok (.getfield 70, 3) := by decide +kernel
theorem dX10_move_37 : decode cX10_move 37 = .ok (.iload_n 3, 1) := by decide +kernel
theorem dX10_move_38 : decode cX10_move 38 = .ok (.aaload, 1) := by decide +kernel
theorem dX10_move_39 : decode cX10_move 39 = .ok (.astore 7, 2) := by decide +kernel
theorem dX10_move_41 : decode cX10_move 41 = .ok (.aload 6, 2) := by decide +kernel
theorem dX10_move_43 : decode cX10_move 43 = .ok (.invokevirtual 312, 3) := by decide +kernel
theorem dX10_move_46 : decode cX10_move 46 = .ok (.ifCond .ne 11, 3) := by decide +kernel
theorem dX10_move_49 : decode cX10_move 49 = .ok (.aload 7, 2) := by decide +kernel
theorem dX10_move_51 : decode cX10_move 51 = .ok (.invokevirtual 312, 3) := by decide +kernel
theorem dX10_move_54 : decode cX10_move 54 = .ok (.ifCond .eq 10, 3) := by decide +kernel
theorem dX10_move_57 : decode cX10_move 57 = .ok (.aload_n 0, 1) := by decide +kernel
theorem dX10_move_58 : decode cX10_move 58 = .ok (.ldc 201, 2) := by decide +kernel
theorem dX10_move_60 : decode cX10_move 60 = .ok (.invokevirtual 84, 3) := by decide +kernel
theorem dX10_move_63 : decode cX10_move 63 = .ok (.ireturn, 1) := by decide +kernel
theorem dX10_move_64 : decode cX10_move 64 = .ok (.aload 6, 2) := by decide +kernel
theorem dX10_move_66 : decode cX10_move 66 = .ok (.getfield 315, 3) := by decide +kernel
theorem dX10_move_69 : decode cX10_move 69 = .ok (.aload 7, 2) := by decide +kernel
theorem dX10_move_71 : decode cX10_move 71 = .ok (.getfield 315, 3) := by decide +kernel
theorem dX10_move_74 : decode cX10_move 74 = .ok (.if_icmp .eq 10, 3) := by decide +kernel
theorem dX10_move_77 : decode cX10_move 77 = .ok (.aload_n 0, 1) := by decide +kernel
theorem dX10_move_78 : decode cX10_move 78 = .ok (.ldc 125, 2) := by decide +kernel
theorem dX10_move_80 : decode cX10_move 80 = .ok (.invokevirtual 84, 3) := by decide +kernel
theorem dX10_move_83 : decode cX10_move 83 = .ok (.ireturn, 1) := by decide +kernel
theorem dX10_move_84 : decode cX10_move 84 = .ok (.aload 6, 2) := by decide +kernel
theorem dX10_move_86 : decode cX10_move 86 = .ok (.iload_n 2, 1) := by decide +kernel
theorem dX10_move_87 : decode cX10_move 87 = .ok (.iload 5, 2) := by decide +kernel
theorem dX10_move_89 : decode cX10_move 89 = .ok (.invokevirtual 318, 3) := by decide +kernel
theorem dX10_move_92 : decode cX10_move 92 = .ok (.ifCond .eq 15, 3) := by decide +kernel
theorem dX10_move_95 : decode cX10_move 95 = .ok (.aload 7, 2) := by decide +kernel
theorem dX10_move_97 : decode cX10_move 97 = .ok (.iload 4, 2) := by decide +kernel
theorem dX10_move_99 : decode cX10_move 99 = .ok (.iload 5, 2) := by decide +kernel
theorem dX10_move_101 : decode cX10_move 101 = .ok (.invokevirtual 318, 3) := by decide +kernel
theorem dX10_move_104 : decode cX10_move 104 = .ok (.ifCond .ne 10, 3) := by decide +kernel
theorem dX10_move_107 : decode cX10_move 107 = .ok (.aload_n 0, 1) := by decide +kernel
theorem dX10_move_108 : decode cX10_move 108 = .ok (.ldc 83, 2) := by decide +kernel
theorem dX10_move_110 : decode cX10_move 110 = .ok (.invokevirtual 84, 3) := by decide +kernel
theorem dX10_move_113 : decode cX10_move 113 = .ok (.ireturn, 1) := by decide +kernel
theorem dX10_move_114 : decode cX10_move 114 = .ok (.aload 6, 2) := by decide +kernel
theorem dX10_move_116 : decode cX10_move 116 = .ok (.getfield 321, 3) := by decide +kernel
theorem dX10_move_119 : decode cX10_move 119 = .ok (.iload_n 2, 1) := by decide +kernel
theorem dX10_move_120 : decode cX10_move 120 = .ok (.aload 7, 2) := by decide +kernel
theorem dX10_move_122 : decode cX10_move 122 = .ok (.getfield 321, 3) := by decide +kernel
theorem dX10_move_125 : decode cX10_move 125 = .ok (.iload 4, 2) := by decide +kernel
theorem dX10_move_127 : decode cX10_move 127 = .ok (.iload 5, 2) := by decide +kernel
theorem dX10_move_129 : decode cX10_move 129 = .ok (.invokestatic 324, 3) := by decide +kernel
theorem dX10_move_132 : decode cX10_move 132 = .ok (.iload 5, 2) := by decide +kernel
theorem dX10_move_134 : decode cX10_move 134 = .ok (.ireturn, 1) := by decide +kernel
theorem dX10_says_0 : decode cX10_says 0 = .ok (.aload_n 0, 1) := by decide +kernel
theorem dX10_says_1 : decode cX10_says 1 = .ok (.iload_n 1, 1) := by decide +kernel
theorem dX10_says_2 : decode cX10_says 2 = .ok (.invokevirtual 303, 3) := by decide +kernel
theorem dX10_says_5 : decode cX10_says 5 = .ok (.istore_n 2, 1) := by decide +kernel
theorem dX10_says_6 : decode cX10_says 6 = .ok (.iload_n 2, 1) := by decide +kernel
theorem dX10_says_7 : decode cX10_says 7 = .ok (.ifCond .eq 9, 3) := by decide +kernel
theorem dX10_says_10 : decode cX10_says 10 = .ok (.aload_n 0, 1) := by decide +kernel
theorem dX10_says_11 : decode cX10_says 11 = .ok (.iload_n 2, 1) := by decide +kernel
theorem dX10_says_12 : decode cX10_says 12 = .ok (.invokevirtual 84, 3) := by decide +kernel
theorem dX10_says_15 : decode cX10_says 15 = .ok (.ireturn, 1) := by decide +kernel
theorem dX10_says_16 : decode cX10_says 16 = .ok (.aload_n 0, 1) := by decide +kernel
theorem dX10_says_17 : decode cX10_says 17 = .ok (.getfield 70, 3) := by decide +kernel
theorem dX10_says_20 : decode cX10_says 20 = .ok (.iload_n 1, 1) := by decide +kernel
theorem dX10_says_21 : decode cX10_says 21 = .ok (.aaload, 1) := by decide +kernel
theorem dX10_says_22 : decode cX10_says 22 = .ok (.astore_n 3, 1) := by decide +kernel
theorem dX10_says_23 : decode cX10_says 23 = .ok (.iconst 0, 1) := by decide +kernel
theorem dX10_says_24 : decode cX10_says 24 = .ok (.istore 4, 2) := by decide +kernel
theorem dX10_says_26 : decode cX10_says 26 = .ok (.iconst 0, 1) := by decide +kernel
theorem dX10_says_27 : decode cX10_says 27 = .ok (.istore 5, 2) := by decide +kernel
theorem dX10_says_29 : decode cX10_says 29 = .ok (.iload 5, 2) := by decide +kernel
theorem dX10_says_31 : decode cX10_says 31 = .ok (.iconst 1, 1) := by decide +kernel
theorem dX10_says_32 : decode cX10_says 32 = .ok (.iadd, 1) := by decide +kernel
theorem dX10_says_33 : decode cX10_says 33 = .ok (.aload_n 3, 1) := by decide +kernel
theorem dX10_says_34 : decode cX10_says 34 = .ok (.getfield 306, 3) := by decide +kernel
theorem dX10_says_37 : decode cX10_says 37 = .ok (.if_icmp .ge 82, 3) := by decide +kernel
theorem dX10_says_40 : decode cX10_says 40 = .ok (.aload_n 3, 1) := by decide +kernel
theorem dX10_says_41 : decode cX10_says 41 = .ok (.getfield 321, 3) := by decide +kernel
theorem dX10_says_44 : decode cX10_says 44 = .ok (.iload 5, 2) := by decide +kernel
theorem dX10_says_46 : decode cX10_says 46 = .ok (.iaload, 1) := by decide +kernel
theorem dX10_says_47 : decode cX10_says 47 = .ok (.bipush 12, 2) := by decide +kernel
theorem dX10_says_49 : decode cX10_says 49 = .ok (.idiv, 1) := by decide +kernel
theorem dX10_says_50 : decode cX10_says 50 = .ok (.istore 6, 2) := by decide +kernel
theorem dX10_says_52 : decode cX10_says 52 = .ok (.aload_n 3, 1) := by decide +kernel
theorem dX10_says_53 : decode cX10_says 53 = .ok (.getfield 321, 3) := by decide +kernel
theorem dX10_says_56 : decode cX10_says 56 = .ok (.iload 5, 2) := by decide +kernel
theorem dX10_says_58 : decode cX10_says 58 = .ok (.iaload, 1) := by decide +kernel
theorem dX10_says_59 : decode cX10_says 59 = .ok (.bipush 12, 2) := by decide +kernel
theorem dX10_says_61 : decode cX10_says 61 = .ok (.irem, 1) := by decide +kernel
theorem dX10_says_62 : decode cX10_says 62 = .ok (.istore 7, 2) := by decide +kernel
theorem dX10_says_64 : decode cX10_says 64 = .ok (.aload_n 0, 1) := by decide +kernel
theorem dX10_says_65 : decode cX10_says 65 = .ok (.getfield 12, 3) := by decide +kernel
theorem dX10_says_68 : decode cX10_says 68 = .ok (.iload 6, 2) := by decide +kernel
theorem dX10_says_70 : decode cX10_says 70 = .ok (.iload 7, 2) := by decide +kernel
theorem dX10_says_72 : decode cX10_says 72 = .ok (.invokevirtual 130, 3) := by decide +kernel
theorem dX10_says_75 : decode cX10_says 75 = .ok (.ifCond .eq 6, 3) := by decide +kernel
theorem dX10_says_78 : decode cX10_says 78 = .ok (.iload 4, 2) := by decide +kernel
theorem dX10_says_80 : decode cX10_says 80 = .ok (.ireturn, 1) := by decide +kernel
theorem dX10_says_81 : decode cX10_says 81 = .ok (.aload_n 0, 1) := by decide +kernel
theorem dX10_says_82 : decode cX10_says 82 = .ok (.getfield 12, 3) := by decide +kernel
theorem dX10_says_85 : decode cX10_says 85 = .ok (.iload 6, 2) := by decide +kernel
theorem dX10_says_87 : decode cX10_says 87 = .ok (.iload 7, 2) := by decide +kernel
theorem dX10_says_89 : decode cX10_says 89 = .ok (.aload_n 3, 1) := by decide +kernel
theorem dX10_says_90 : decode cX10_says 90 = .ok (.getfield 321, 3) := by decide +kernel
theorem dX10_says_93 : decode cX10_says 93 = .ok (.iload 5, 2) := by decide +kernel
theorem dX10_says_95 : decode cX10_says 95 = .ok (.iconst 1, 1) := by decide +kernel
theorem dX10_says_96 : decode cX10_says 96 = .ok (.iadd, 1) := by decide +kernel
theorem dX10_says_97 : decode cX10_says 97 = .ok (.iaload, 1) := by decide +kernel
theorem dX10_says_98 : decode cX10_says 98 = .ok (.ifCond .eq 7, 3) := by decide +kernel
theorem dX10_says_101 : decode cX10_says 101 = .ok (.iconst 1, 1) := by decide +kernel
theorem dX10_says_102 : decode cX10_says 102 = .ok (.goto 4, 3) := by decide +kernel
theorem dX10_says_105 : decode cX10_says 105 = .ok (.iconst 0, 1) := by decide +kernel
theorem dX10_says_106 : decode cX10_says 106 = .ok (.invokevirtual 134, 3) := by decide +kernel
theorem dX10_says_109 : decode cX10_says 109 = .ok (.pop, 1) := by decide +kernel
theorem dX10_says_110 : decode cX10_says 110 = .ok (.iinc 4 1, 3) := by decide +kernel
theorem dX10_says_113 : decode cX10_says 113 = .ok (.iinc 5 2, 3) := by decide +kernel
theorem dX10_says_116 : decode cX10_says 116 = .ok (.goto (-87), 3) := by decide +kernel
theorem dX10_says_119 : decode cX10_says 119 = .ok (.iload 4, 2) := by decide +kernel
theorem dX10_says_121 : decode cX10_says 121 = .ok (.ireturn, 1) := by decide +kernel
theorem dX10_image_0 : decode cX10_image 0 = .ok (.aload_n 0, 1) := by decide +kernel
theorem dX10_image_1 : decode cX10_image 1 = .ok (.getfield 16, 3) := by decide +kernel
theorem dX10_image_4 : decode cX10_image 4 = .ok (.aload_n 0, 1) := by decide +kernel
theorem dX10_image_5 : decode cX10_image 5 = .ok (.getfield 12, 3) := by decide +kernel
theorem dX10_image_8 : decode cX10_image 8 = .ok (.invokevirtual 168, 3) := by decide +kernel
theorem dX10_image_11 : decode cX10_image 11 = .ok (.aload_n 0, 1) := by decide +kernel
theorem dX10_image_12 : decode cX10_image 12 = .ok (.dup, 1) := by decide +kernel
theorem dX10_image_13 : decode cX10_image 13 = .ok (.getfield 330, 3) := by decide +kernel
theorem dX10_image_16 : decode cX10_image 16 = .ok (.iconst 1, 1) := by decide +kernel
theorem dX10_image_17 : decode cX10_image 17 = .ok (.iadd, 1) := by decide +kernel
theorem dX10_image_18 : decode cX10_image 18 = .ok (.putfield 330, 3) := by decide +kernel
theorem dX10_image_21 : decode cX10_image 21 = .ok (.aload_n 0, 1) := by decide +kernel
theorem dX10_image_22 : decode cX10_image 22 = .ok (.getfield 330, 3) := by decide +kernel
theorem dX10_image_25 : decode cX10_image 25 = .ok (.ireturn, 1) := by decide +kernel
theorem dX10_restore_0 : decode cX10_restore 0 = .ok (.aload_n 0, 1) := by decide +kernel
theorem dX10_restore_1 : decode cX10_restore 1 = .ok (.getfield 330, 3) := by decide +kernel
theorem dX10_restore_4 : decode cX10_restore 4 = .ok (.ifCond .ne 10, 3) := by decide +kernel
theorem dX10_restore_7 : decode cX10_restore 7 = .ok (.aload_n 0, 1) := by decide +kernel
theorem dX10_restore_8 : decode cX10_restore 8 = .ok (.ldc 201, 2) := by decide +kernel
theorem dX10_restore_10 : decode cX10_restore 10 = .ok (.invokevirtual 84, 3) := by decide +kernel
theorem dX10_restore_13 : decode cX10_restore 13 = .ok (.ireturn, 1) := by decide +kernel
theorem dX10_restore_14 : decode cX10_restore 14 = .ok (.aload_n 0, 1) := by decide +kernel
theorem dX10_restore_15 : decode cX10_restore 15 = .ok (.getfield 12, 3) := by decide +kernel
theorem dX10_restore_18 : decode cX10_restore 18 = .ok (.aload_n 0, 1) := by decide +kernel
theorem dX10_restore_19 : decode cX10_restore 19 = .ok (.getfield 16, 3) := by decide +kernel
theorem dX10_restore_22 : decode cX10_restore 22 = .ok (.invokevirtual 168, 3) := by decide +kernel
theorem dX10_restore_25 : decode cX10_restore 25 = .ok (.aload_n 0, 1) := by decide +kernel
theorem dX10_restore_26 : decode cX10_restore 26 = .ok (.getfield 12, 3) := by decide +kernel
theorem dX10_restore_29 : decode cX10_restore 29 = .ok (.getfield 245, 3) := by decide +kernel
theorem dX10_restore_32 : decode cX10_restore 32 = .ok (.ireturn, 1) := by decide +kernel
theorem dX10_tell_0 : decode cX10_tell 0 = .ok (.aload_n 0, 1) := by decide +kernel
theorem dX10_tell_1 : decode cX10_tell 1 = .ok (.getfield 12, 3) := by decide +kernel
theorem dX10_tell_4 : decode cX10_tell 4 = .ok (.getfield 333, 3) := by decide +kernel
theorem dX10_tell_7 : decode cX10_tell 7 = .ok (.bipush 48, 2) := by decide +kernel
theorem dX10_tell_9 : decode cX10_tell 9 = .ok (.if_icmp .lt 10, 3) := by decide +kernel
theorem dX10_tell_12 : decode cX10_tell 12 = .ok (.aload_n 0, 1) := by decide +kernel
theorem dX10_tell_13 : decode cX10_tell 13 = .ok (.ldc 92, 2) := by decide +kernel
theorem dX10_tell_15 : decode cX10_tell 15 = .ok (.invokevirtual 84, 3) := by decide +kernel
theorem dX10_tell_18 : decode cX10_tell 18 = .ok (.ireturn, 1) := by decide +kernel
theorem dX10_tell_19 : decode cX10_tell 19 = .ok (.aload_n 0, 1) := by decide +kernel
theorem dX10_tell_20 : decode cX10_tell 20 = .ok (.getfield 12, 3) := by decide +kernel
theorem dX10_tell_23 : decode cX10_tell 23 = .ok (.iload_n 1, 1) := by decide +kernel
theorem dX10_tell_24 : decode cX10_tell 24 = .ok (.invokevirtual 336, 3) := by decide +kernel
theorem dX10_tell_27 : decode cX10_tell 27 = .ok (.ireturn, 1) := by decide +kernel
theorem dX10_check_0 : decode cX10_check 0 = .ok (.aload_n 0, 1) := by decide +kernel
theorem dX10_check_1 : decode cX10_check 1 = .ok (.getfield 34, 3) := by decide +kernel
theorem dX10_check_4 : decode cX10_check 4 = .ok (.invokevirtual 178, 3) := by decide +kernel
theorem dX10_check_7 : decode cX10_check 7 = .ok (.aload_n 0, 1) := by decide +kernel
theorem dX10_check_8 : decode cX10_check 8 = .ok (.getfield 12, 3) := by decide +kernel
theorem dX10_check_11 : decode cX10_check 11 = .ok (.getfield 333, 3) := by decide +kernel
theorem dX10_check_14 : decode cX10_check 14 = .ok (.istore_n 1, 1) := by decide +kernel
theorem dX10_check_15 : decode cX10_check 15 = .ok (.aload_n 0, 1) := by decide +kernel
theorem dX10_check_16 : decode cX10_check 16 = .ok (.getfield 12, 3) := by decide +kernel
theorem dX10_check_19 : decode cX10_check 19 = .ok (.iconst 0, 1) := by decide +kernel
theorem dX10_check_20 : decode cX10_check 20 = .ok (.putfield 333, 3) := by decide +kernel
theorem dX10_check_23 : decode cX10_check 23 = .ok (.iconst 0, 1) := by decide +kernel
theorem dX10_check_24 : decode cX10_check 24 = .ok (.istore_n 2, 1) := by decide +kernel
theorem dX10_check_25 : decode cX10_check 25 = .ok (.iload_n 2, 1) := by decide +kernel
theorem dX10_check_26 : decode cX10_check 26 = .ok (.iload_n 1, 1) := by decide +kernel
theorem dX10_check_27 : decode cX10_check 27 = .ok (.if_icmp .ge 45, 3) := by decide +kernel
theorem dX10_check_30 : decode cX10_check 30 = .ok (.iload_n 2, 1) := by decide +kernel
theorem dX10_check_31 : decode cX10_check 31 = .ok (.aload_n 0, 1) := by decide +kernel
theorem dX10_check_32 : decode cX10_check 32 = .ok (.getfield 34, 3) := by decide +kernel
theorem dX10_check_35 : decode cX10_check 35 = .ok (.getfield 195, 3) := by decide +kernel
theorem dX10_check_38 : decode cX10_check 38 = .ok (.if_icmp .ge 24, 3) := by decide +kernel
theorem dX10_check_41 : decode cX10_check 41 = .ok (.aload_n 0, 1) := by decide +kernel
theorem dX10_check_42 : decode cX10_check 42 = .ok (.getfield 12, 3) := by decide +kernel
theorem dX10_check_45 : decode cX10_check 45 = .ok (.getfield 339, 3) := by decide +kernel
theorem dX10_check_48 : decode cX10_check 48 = .ok (.iload_n 2, 1) := by decide +kernel
theorem dX10_check_49 : decode cX10_check 49 = .ok (.iaload, 1) := by decide +kernel
theorem dX10_check_50 : decode cX10_check 50 = .ok (.aload_n 0, 1) := by decide +kernel
theorem dX10_check_51 : decode cX10_check 51 = .ok (.getfield 34, 3) := by decide +kernel
theorem dX10_check_54 : decode cX10_check 54 = .ok (.getfield 198, 3) := by decide +kernel
theorem dX10_check_57 : decode cX10_check 57 = .ok (.iload_n 2, 1) := by decide +kernel
theorem dX10_check_58 : decode cX10_check 58 = .ok (.iaload, 1) := by decide +kernel
theorem dX10_check_59 : decode cX10_check 59 = .ok (.if_icmp .eq 7, 3) := by decide +kernel
theorem dX10_check_62 : decode cX10_check 62 = .ok (.iconst 1, 1) := by decide +kernel
theorem dX10_check_63 : decode cX10_check 63 = .ok (.iload_n 2, 1) := by decide +kernel
theorem dX10_check_64 : decode cX10_check 64 = .ok (.iadd, 1) := by decide +kernel
theorem dX10_check_65 : decode cX10_check 65 = .ok (.ireturn, 1) := by decide +kernel
theorem dX10_check_66 : decode cX10_check 66 = .ok (.iinc 2 1, 3) := by decide +kernel
theorem dX10_check_69 : decode cX10_check 69 = .ok (.goto (-44), 3) := by decide +kernel
theorem dX10_check_72 : decode cX10_check 72 = .ok (.iconst 0, 1) := by decide +kernel
theorem dX10_check_73 : decode cX10_check 73 = .ok (.ireturn, 1) := by decide +kernel
theorem dX10_count_0 : decode cX10_count 0 = .ok (.iload_n 1, 1) := by decide +kernel
theorem dX10_count_1 : decode cX10_count 1 = .ok (.tableswitch 111 0 7 #[47, 55, 63, 71, 79, 87, 95, 103], 47) := by decide +kernel
theorem dX10_count_48 : decode cX10_count 48 = .ok (.aload_n 0, 1) := by decide +kernel
theorem dX10_count_49 : decode cX10_count 49 = .ok (.getfield 12, 3) := by decide +kernel
theorem dX10_count_52 : decode cX10_count 52 = .ok (.getfield 245, 3) := by decide +kernel
theorem dX10_count_55 : decode cX10_count 55 = .ok (.ireturn, 1) := by decide +kernel
theorem dX10_count_56 : decode cX10_count 56 = .ok (.aload_n 0, 1) := by decide +kernel
theorem dX10_count_57 : decode cX10_count 57 = .ok (.getfield 12, 3) := by decide +kernel
theorem dX10_count_60 : decode cX10_count 60 = .ok (.invokevirtual 248, 3) := by decide +kernel
theorem dX10_count_63 : decode cX10_count 63 = .ok (.ireturn, 1) := by decide +kernel
theorem dX10_count_64 : decode cX10_count 64 = .ok (.aload_n 0, 1) := by decide +kernel
theorem dX10_count_65 : decode cX10_count 65 = .ok (.getfield 12, 3) := by decide +kernel
theorem dX10_count_68 : decode cX10_count 68 = .ok (.getfield 342, 3) := by decide +kernel
theorem dX10_count_71 : decode cX10_count 71 = .ok (.ireturn, 1) := by decide +kernel
theorem dX10_count_72 : decode cX10_count 72 = .ok (.aload_n 0, 1) := by decide +kernel
theorem dX10_count_73 : decode cX10_count 73 = .ok (.getfield 12, 3) := by decide +kernel
theorem dX10_count_76 : decode cX10_count 76 = .ok (.invokevirtual 345, 3) := by decide +kernel
theorem dX10_count_79 : decode cX10_count 79 = .ok (.ireturn, 1) := by decide +kernel
theorem dX10_count_80 : decode cX10_count 80 = .ok (.aload_n 0, 1) := by decide +kernel
theorem dX10_count_81 : decode cX10_count 81 = .ok (.getfield 12, 3) := by decide +kernel
theorem dX10_count_84 : decode cX10_count 84 = .ok (.getfield 160, 3) := by decide +kernel
theorem dX10_count_87 : decode cX10_count 87 = .ok (.ireturn, 1) := by decide +kernel
theorem dX10_count_88 : decode cX10_count 88 = .ok (.aload_n 0, 1) := by decide +kernel
theorem dX10_count_89 : decode cX10_count 89 = .ok (.getfield 12, 3) := by decide +kernel
theorem dX10_count_92 : decode cX10_count 92 = .ok (.getfield 333, 3) := by decide +kernel
theorem dX10_count_95 : decode cX10_count 95 = .ok (.ireturn, 1) := by decide +kernel
theorem dX10_count_96 : decode cX10_count 96 = .ok (.aload_n 0, 1) := by decide +kernel
theorem dX10_count_97 : decode cX10_count 97 = .ok (.getfield 64, 3) := by decide +kernel
theorem dX10_count_100 : decode cX10_count 100 = .ok (.getfield 291, 3) := by decide +kernel
theorem dX10_count_103 : decode cX10_count 103 = .ok (.ireturn, 1) := by decide +kernel
theorem dX10_count_104 : decode cX10_count 104 = .ok (.aload_n 0, 1) := by decide +kernel
theorem dX10_count_105 : decode cX10_count 105 = .ok (.getfield 12, 3) := by decide +kernel
theorem dX10_count_108 : decode cX10_count 108 = .ok (.invokevirtual 348, 3) := by decide +kernel
theorem dX10_count_111 : decode cX10_count 111 = .ok (.ireturn, 1) := by decide +kernel
theorem dX10_count_112 : decode cX10_count 112 = .ok (.aload_n 0, 1) := by decide +kernel
theorem dX10_count_113 : decode cX10_count 113 = .ok (.ldc 83, 2) := by decide +kernel
theorem dX10_count_115 : decode cX10_count 115 = .ok (.invokevirtual 84, 3) := by decide +kernel
theorem dX10_count_118 : decode cX10_count 118 = .ok (.ireturn, 1) := by decide +kernel
theorem dX10_told_0 : decode cX10_told 0 = .ok (.iload_n 1, 1) := by decide +kernel
theorem dX10_told_1 : decode cX10_told 1 = .ok (.iconst 1, 1) := by decide +kernel
theorem dX10_told_2 : decode cX10_told 2 = .ok (.bipush 6, 2) := by decide +kernel
theorem dX10_told_4 : decode cX10_told 4 = .ok (.invokestatic 79, 3) := by decide +kernel
theorem dX10_told_7 : decode cX10_told 7 = .ok (.ifCond .eq 10, 3) := by decide +kernel
theorem dX10_told_10 : decode cX10_told 10 = .ok (.aload_n 0, 1) := by decide +kernel
theorem dX10_told_11 : decode cX10_told 11 = .ok (.ldc 83, 2) := by decide +kernel
theorem dX10_told_13 : decode cX10_told 13 = .ok (.invokevirtual 84, 3) := by decide +kernel
theorem dX10_told_16 : decode cX10_told 16 = .ok (.ireturn, 1) := by decide +kernel
theorem dX10_told_17 : decode cX10_told 17 = .ok (.aload_n 0, 1) := by decide +kernel
theorem dX10_told_18 : decode cX10_told 18 = .ok (.getfield 74, 3) := by decide +kernel
theorem dX10_told_21 : decode cX10_told 21 = .ok (.iload_n 1, 1) := by decide +kernel
theorem dX10_told_22 : decode cX10_told 22 = .ok (.iaload, 1) := by decide +kernel
theorem dX10_told_23 : decode cX10_told 23 = .ok (.ireturn, 1) := by decide +kernel
theorem dX10_refuse_0 : decode cX10_refuse 0 = .ok (.ldc_w 351, 3) := by decide +kernel
theorem dX10_refuse_3 : decode cX10_refuse 3 = .ok (.iload_n 1, 1) := by decide +kernel
theorem dX10_refuse_4 : decode cX10_refuse 4 = .ok (.isub, 1) := by decide +kernel
theorem dX10_refuse_5 : decode cX10_refuse 5 = .ok (.istore_n 2, 1) := by decide +kernel
theorem dX10_refuse_6 : decode cX10_refuse 6 = .ok (.iload_n 2, 1) := by decide +kernel
theorem dX10_refuse_7 : decode cX10_refuse 7 = .ok (.iconst 1, 1) := by decide +kernel
theorem dX10_refuse_8 : decode cX10_refuse 8 = .ok (.bipush 6, 2) := by decide +kernel
theorem dX10_refuse_10 : decode cX10_refuse 10 = .ok (.invokestatic 79, 3) := by decide +kernel
theorem dX10_refuse_13 : decode cX10_refuse 13 = .ok (.ifCond .ne 13, 3) := by decide +kernel
theorem dX10_refuse_16 : decode cX10_refuse 16 = .ok (.aload_n 0, 1) := by decide +kernel
theorem dX10_refuse_17 : decode cX10_refuse 17 = .ok (.getfield 74, 3) := by decide +kernel
theorem dX10_refuse_20 : decode cX10_refuse 20 = .ok (.iload_n 2, 1) := by decide +kernel
theorem dX10_refuse_21 : decode cX10_refuse 21 = .ok (.dup2, 1) := by decide +kernel
theorem dX10_refuse_22 : decode cX10_refuse 22 = .ok (.iaload, 1) := by decide +kernel
theorem dX10_refuse_23 : decode cX10_refuse 23 = .ok (.iconst 1, 1) := by decide +kernel
theorem dX10_refuse_24 : decode cX10_refuse 24 = .ok (.iadd, 1) := by decide +kernel
theorem dX10_refuse_25 : decode cX10_refuse 25 = .ok (.iastore, 1) := by decide +kernel
theorem dX10_refuse_26 : decode cX10_refuse 26 = .ok (.iload_n 1, 1) := by decide +kernel
theorem dX10_refuse_27 : decode cX10_refuse 27 = .ok (.ireturn, 1) := by decide +kernel
theorem dX10_objectionToSheet_0 : decode cX10_objectionToSheet 0 = .ok (.iload_n 1, 1) := by decide +kernel
theorem dX10_objectionToSheet_1 : decode cX10_objectionToSheet 1 = .ok (.iconst 0, 1) := by decide +kernel
theorem dX10_objectionToSheet_2 : decode cX10_objectionToSheet 2 = .ok (.iconst 3, 1) := by decide +kernel
theorem dX10_objectionToSheet_3 : decode cX10_objectionToSheet 3 = .ok (.invokestatic 79, 3) := by decide +kernel
theorem dX10_objectionToSheet_6 : decode cX10_objectionToSheet 6 = .ok (.ifCond .eq 6, 3) := by decide +kernel
theorem dX10_objectionToSheet_9 : decode cX10_objectionToSheet 9 = .ok (.ldc 83, 2) := by decide +kernel
theorem dX10_objectionToSheet_11 : decode cX10_objectionToSheet 11 = .ok (.ireturn, 1) := by decide +kernel
theorem dX10_objectionToSheet_12 : decode cX10_objectionToSheet 12 = .ok (.aload_n 0, 1) := by decide +kernel
theorem dX10_objectionToSheet_13 : decode cX10_objectionToSheet 13 = .ok (.getfield 70, 3) := by decide +kernel
theorem dX10_objectionToSheet_16 : decode cX10_objectionToSheet 16 = .ok (.iload_n 1, 1) := by decide +kernel
theorem dX10_objectionToSheet_17 : decode cX10_objectionToSheet 17 = .ok (.aaload, 1) := by decide +kernel
theorem dX10_objectionToSheet_18 : decode cX10_objectionToSheet 18 = .ok (.invokevirtual 312, 3) := by decide +kernel
theorem dX10_objectionToSheet_21 : decode cX10_objectionToSheet 21 = .ok (.ifCond .eq 8, 3) := by decide +kernel
theorem dX10_objectionToSheet_24 : decode cX10_objectionToSheet 24 = .ok (.ldc 201, 2) := by decide +kernel
theorem dX10_objectionToSheet_26 : decode cX10_objectionToSheet 26 = .ok (.goto 4, 3) := by decide +kernel
theorem dX10_objectionToSheet_29 : decode cX10_objectionToSheet 29 = .ok (.iconst 0, 1) := by decide +kernel
theorem dX10_objectionToSheet_30 : decode cX10_objectionToSheet 30 = .ok (.ireturn, 1) := by decide +kernel
theorem dX10_outside_0 : decode cX10_outside 0 = .ok (.iload_n 0, 1) := by decide +kernel
theorem dX10_outside_1 : decode cX10_outside 1 = .ok (.iload_n 1, 1) := by decide +kernel
theorem dX10_outside_2 : decode cX10_outside 2 = .ok (.if_icmp .lt 8, 3) := by decide +kernel
theorem dX10_outside_5 : decode cX10_outside 5 = .ok (.iload_n 0, 1) := by decide +kernel
theorem dX10_outside_6 : decode cX10_outside 6 = .ok (.iload_n 2, 1) := by decide +kernel
theorem dX10_outside_7 : decode cX10_outside 7 = .ok (.if_icmp .le 7, 3) := by decide +kernel
theorem dX10_outside_10 : decode cX10_outside 10 = .ok (.iconst 1, 1) := by decide +kernel
theorem dX10_outside_11 : decode cX10_outside 11 = .ok (.goto 4, 3) := by decide +kernel
theorem dX10_outside_14 : decode cX10_outside 14 = .ok (.iconst 0, 1) := by decide +kernel
theorem dX10_outside_15 : decode cX10_outside 15 = .ok (.ireturn, 1) := by decide +kernel
theorem dX10_commonDivisor_0 : decode cX10_commonDivisor 0 = .ok (.lload_n 0, 1) := by decide +kernel
theorem dX10_commonDivisor_1 : decode cX10_commonDivisor 1 = .ok (.lstore 4, 2) := by decide +kernel
theorem dX10_commonDivisor_3 : decode cX10_commonDivisor 3 = .ok (.lload_n 2, 1) := by decide +kernel
theorem dX10_commonDivisor_4 : decode cX10_commonDivisor 4 = .ok (.lstore 6, 2) := by decide +kernel
theorem dX10_commonDivisor_6 : decode cX10_commonDivisor 6 = .ok (.iconst 0, 1) := by decide +kernel
theorem dX10_commonDivisor_7 : decode cX10_commonDivisor 7 = .ok (.istore 8, 2) := by decide +kernel
theorem dX10_commonDivisor_9 : decode cX10_commonDivisor 9 = .ok (.iload 8, 2) := by decide +kernel
theorem dX10_commonDivisor_11 : decode cX10_commonDivisor 11 = .ok (.sipush 200, 3) := by decide +kernel
theorem dX10_commonDivisor_14 : decode cX10_commonDivisor 14 = .ok (.if_icmp .ge 31, 3) := by decide +kernel
theorem dX10_commonDivisor_17 : decode cX10_commonDivisor 17 = .ok (.lload 6, 2) := by decide +kernel
theorem dX10_commonDivisor_19 : decode cX10_commonDivisor 19 = .ok (.lconst 0, 1) := by decide +kernel
theorem dX10_commonDivisor_20 : decode cX10_commonDivisor 20 = .ok (.lcmp, 1) := by decide +kernel
theorem dX10_commonDivisor_21 : decode cX10_commonDivisor 21 = .ok (.ifCond .eq 24, 3) := by decide +kernel
theorem dX10_commonDivisor_24 : decode cX10_commonDivisor 24 = .ok (.lload 4, 2) := by decide +kernel
theorem dX10_commonDivisor_26 : decode cX10_commonDivisor 26 = .ok (.lload 6, 2) := by decide +kernel
theorem dX10_commonDivisor_28 : decode cX10_commonDivisor 28 = .ok (.lrem, 1) := by decide +kernel
theorem dX10_commonDivisor_29 : decode cX10_commonDivisor 29 = .ok (.lstore 9, 2) := by decide +kernel
theorem dX10_commonDivisor_31 : decode cX10_commonDivisor 31 = .ok (.lload 6, 2) := by decide +kernel
theorem dX10_commonDivisor_33 : decode cX10_commonDivisor 33 = .ok (.lstore 4, 2) := by decide +kernel
theorem dX10_commonDivisor_35 : decode cX10_commonDivisor 35 = .ok (.lload 9, 2) := by decide +kernel
theorem dX10_commonDivisor_37 : decode cX10_commonDivisor 37 = .ok (.lstore 6, 2) := by decide +kernel
theorem dX10_commonDivisor_39 : decode cX10_commonDivisor 39 = .ok (.iinc 8 1, 3) := by decide +kernel
theorem dX10_commonDivisor_42 : decode cX10_commonDivisor 42 = .ok (.goto (-33), 3) := by decide +kernel
theorem dX10_commonDivisor_45 : decode cX10_commonDivisor 45 = .ok (.lload 4, 2) := by decide +kernel
theorem dX10_commonDivisor_47 : decode cX10_commonDivisor 47 = .ok (.lreturn, 1) := by decide +kernel
