theorem dX0_init_0 : decode cX0_init 0 = .ok (.aload_n 0, 1) := by decide +kernel
theorem dX0_init_1 : decode cX0_init 1 = .ok (.invokespecial 3, 3) := by decide +kernel
theorem dX0_init_4 : decode cX0_init 4 = .ok (.aload_n 0, 1) := by decide +kernel
theorem dX0_init_5 : decode cX0_init 5 = .ok (.bipush 12, 2) := by decide +kernel
theorem dX0_init_7 : decode cX0_init 7 = .ok (.newarray .int, 2) := by decide +kernel
theorem dX0_init_9 : decode cX0_init 9 = .ok (.putfield 9, 3) := by decide +kernel
theorem dX0_init_12 : decode cX0_init 12 = .ok (.aload_n 0, 1) := by decide +kernel
theorem dX0_init_13 : decode cX0_init 13 = .ok (.sipush 4096, 3) := by decide +kernel
theorem dX0_init_16 : decode cX0_init 16 = .ok (.newarray .int, 2) := by decide +kernel
theorem dX0_init_18 : decode cX0_init 18 = .ok (.putfield 15, 3) := by decide +kernel
theorem dX0_init_21 : decode cX0_init 21 = .ok (.aload_n 0, 1) := by decide +kernel
theorem dX0_init_22 : decode cX0_init 22 = .ok (.aload_n 1, 1) := by decide +kernel
theorem dX0_init_23 : decode cX0_init 23 = .ok (.putfield 18, 3) := by decide +kernel
theorem dX0_init_26 : decode cX0_init 26 = .ok (.return_, 1) := by decide +kernel
theorem dX0_look_0 : decode cX0_look 0 = .ok (.aload_n 0, 1) := by decide +kernel
theorem dX0_look_1 : decode cX0_look 1 = .ok (.getfield 18, 3) := by decide +kernel
theorem dX0_look_4 : decode cX0_look 4 = .ok (.getfield 22, 3) := by decide +kernel
theorem dX0_look_7 : decode cX0_look 7 = .ok (.iconst 0, 1) := by decide +kernel
theorem dX0_look_8 : decode cX0_look 8 = .ok (.aload_n 0, 1) := by decide +kernel
theorem dX0_look_9 : decode cX0_look 9 = .ok (.getfield 9, 3) := by decide +kernel
theorem dX0_look_12 : decode cX0_look 12 = .ok (.iconst 0, 1) := by decide +kernel
theorem dX0_look_13 : decode cX0_look 13 = .ok (.bipush 12, 2) := by decide +kernel
theorem dX0_look_15 : decode cX0_look 15 = .ok (.invokestatic 25, 3) := by decide +kernel
theorem dX0_look_18 : decode cX0_look 18 = .ok (.aload_n 0, 1) := by decide +kernel
theorem dX0_look_19 : decode cX0_look 19 = .ok (.invokevirtual 31, 3) := by decide +kernel
theorem dX0_look_22 : decode cX0_look 22 = .ok (.return_, 1) := by decide +kernel
theorem dX0_lookWithout_0 : decode cX0_lookWithout 0 = .ok (.aload_n 0, 1) := by decide +kernel
theorem dX0_lookWithout_1 : decode cX0_lookWithout 1 = .ok (.getfield 18, 3) := by decide +kernel
theorem dX0_lookWithout_4 : decode cX0_lookWithout 4 = .ok (.getfield 22, 3) := by decide +kernel
theorem dX0_lookWithout_7 : decode cX0_lookWithout 7 = .ok (.iconst 0, 1) := by decide +kernel
theorem dX0_lookWithout_8 : decode cX0_lookWithout 8 = .ok (.aload_n 0, 1) := by decide +kernel
theorem dX0_lookWithout_9 : decode cX0_lookWithout 9 = .ok (.getfield 9, 3) := by decide +kernel
theorem dX0_lookWithout_12 : decode cX0_lookWithout 12 = .ok (.iconst 0, 1) := by decide +kernel
theorem dX0_lookWithout_13 : decode cX0_lookWithout 13 = .ok (.bipush 12, 2) := by decide +kernel
theorem dX0_lookWithout_15 : decode cX0_lookWithout 15 = .ok (.invokestatic 25, 3) := by decide +kernel
theorem dX0_lookWithout_18 : decode cX0_lookWithout 18 = .ok (.aload_n 0, 1) := by decide +kernel
theorem dX0_lookWithout_19 : decode cX0_lookWithout 19 = .ok (.getfield 9, 3) := by decide +kernel
theorem dX0_lookWithout_22 : decode cX0_lookWithout 22 = .ok (.iload_n 1, 1) := by decide +kernel
theorem dX0_lookWithout_23 : decode cX0_lookWithout 23 = .ok (.dup2, 1) := by decide +kernel
theorem dX0_lookWithout_24 : decode cX0_lookWithout 24 = .ok (.iaload, 1) := by decide +kernel
theorem dX0_lookWithout_25 : decode cX0_lookWithout 25 = .ok (.iconst 1, 1) := by decide +kernel
theorem dX0_lookWithout_26 : decode cX0_lookWithout 26 = .ok (.iload_n 2, 1) := by decide +kernel
theorem dX0_lookWithout_27 : decode cX0_lookWithout 27 = .ok (.ishl, 1) := by decide +kernel
theorem dX0_lookWithout_28 : decode cX0_lookWithout 28 = .ok (.iconst (-1), 1) := by decide +kernel
theorem dX0_lookWithout_29 : decode cX0_lookWithout 29 = .ok (.ixor, 1) := by decide +kernel
theorem dX0_lookWithout_30 : decode cX0_lookWithout 30 = .ok (.iand, 1) := by decide +kernel
theorem dX0_lookWithout_31 : decode cX0_lookWithout 31 = .ok (.iastore, 1) := by decide +kernel
theorem dX0_lookWithout_32 : decode cX0_lookWithout 32 = .ok (.aload_n 0, 1) := by decide +kernel
theorem dX0_lookWithout_33 : decode cX0_lookWithout 33 = .ok (.invokevirtual 31, 3) := by decide +kernel
theorem dX0_lookWithout_36 : decode cX0_lookWithout 36 = .ok (.return_, 1) := by decide +kernel
theorem dX0_reachOut_0 : decode cX0_reachOut 0 = .ok (.iconst 0, 1) := by decide +kernel
theorem dX0_reachOut_1 : decode cX0_reachOut 1 = .ok (.istore_n 1, 1) := by decide +kernel
theorem dX0_reachOut_2 : decode cX0_reachOut 2 = .ok (.iload_n 1, 1) := by decide +kernel
theorem dX0_reachOut_3 : decode cX0_reachOut 3 = .ok (.aload_n 0, 1) := by decide +kernel
theorem dX0_reachOut_4 : decode cX0_reachOut 4 = .ok (.getfield 18, 3) := by decide +kernel
theorem dX0_reachOut_7 : decode cX0_reachOut 7 = .ok (.getfield 34, 3) := by decide +kernel
theorem dX0_reachOut_10 : decode cX0_reachOut 10 = .ok (.if_icmp .ge 47, 3) := by decide +kernel
theorem dX0_reachOut_13 : decode cX0_reachOut 13 = .ok (.iconst 1, 1) := by decide +kernel
theorem dX0_reachOut_14 : decode cX0_reachOut 14 = .ok (.iload_n 1, 1) := by decide +kernel
theorem dX0_reachOut_15 : decode cX0_reachOut 15 = .ok (.ishl, 1) := by decide +kernel
theorem dX0_reachOut_16 : decode cX0_reachOut 16 = .ok (.istore_n 2, 1) := by decide +kernel
theorem dX0_reachOut_17 : decode cX0_reachOut 17 = .ok (.iconst 0, 1) := by decide +kernel
theorem dX0_reachOut_18 : decode cX0_reachOut 18 = .ok (.istore_n 3, 1) := by decide +kernel
theorem dX0_reachOut_19 : decode cX0_reachOut 19 = .ok (.iload_n 3, 1) := by decide +kernel
theorem dX0_reachOut_20 : decode cX0_reachOut 20 = .ok (.iload_n 2, 1) := by decide +kernel
theorem dX0_reachOut_21 : decode cX0_reachOut 21 = .ok (.if_icmp .ge 30, 3) := by decide +kernel
theorem dX0_reachOut_24 : decode cX0_reachOut 24 = .ok (.aload_n 0, 1) := by decide +kernel
theorem dX0_reachOut_25 : decode cX0_reachOut 25 = .ok (.getfield 15, 3) := by decide +kernel
theorem dX0_reachOut_28 : decode cX0_reachOut 28 = .ok (.iload_n 2, 1) := by decide +kernel
theorem dX0_reachOut_29 : decode cX0_reachOut 29 = .ok (.iload_n 3, 1) := by decide +kernel
theorem dX0_reachOut_30 : decode cX0_reachOut 30 = .ok (.iadd, 1) := by decide +kernel
theorem dX0_reachOut_31 : decode cX0_reachOut 31 = .ok (.aload_n 0, 1) := by decide +kernel
theorem dX0_reachOut_32 : decode cX0_reachOut 32 = .ok (.getfield 15, 3) := by decide +kernel
theorem dX0_reachOut_35 : decode cX0_reachOut 35 = .ok (.iload_n 3, 1) := by decide +kernel
theorem dX0_reachOut_36 : decode cX0_reachOut 36 = .ok (.iaload, 1) := by decide +kernel
theorem dX0_reachOut_37 : decode cX0_reachOut 37 = .ok (.aload_n 0, 1) := by decide +kernel
theorem dX0_reachOut_38 : decode cX0_reachOut 38 = .ok (.getfield 9, 3) := by decide +kernel
theorem dX0_reachOut_41 : decode cX0_reachOut 41 = .ok (.iload_n 1, 1) := by decide +kernel
theorem dX0_reachOut_42 : decode cX0_reachOut 42 = .ok (.iaload, 1) := by decide +kernel
theorem dX0_reachOut_43 : decode cX0_reachOut 43 = .ok (.ior, 1) := by decide +kernel
theorem dX0_reachOut_44 : decode cX0_reachOut 44 = .ok (.iastore, 1) := by decide +kernel
theorem dX0_reachOut_45 : decode cX0_reachOut 45 = .ok (.iinc 3 1, 3) := by decide +kernel
theorem dX0_reachOut_48 : decode cX0_reachOut 48 = .ok (.goto (-29), 3) := by decide +kernel
theorem dX0_reachOut_51 : decode cX0_reachOut 51 = .ok (.iinc 1 1, 3) := by decide +kernel
theorem dX0_reachOut_54 : decode cX0_reachOut 54 = .ok (.goto (-52), 3) := by decide +kernel
theorem dX0_reachOut_57 : decode cX0_reachOut 57 = .ok (.return_, 1) := by decide +kernel
theorem dX0_apartIn_0 : decode cX0_apartIn 0 = .ok (.iload_n 1, 1) := by decide +kernel
theorem dX0_apartIn_1 : decode cX0_apartIn 1 = .ok (.aload_n 0, 1) := by decide +kernel
theorem dX0_apartIn_2 : decode cX0_apartIn 2 = .ok (.getfield 15, 3) := by decide +kernel
theorem dX0_apartIn_5 : decode cX0_apartIn 5 = .ok (.aload_n 0, 1) := by decide +kernel
theorem dX0_apartIn_6 : decode cX0_apartIn 6 = .ok (.getfield 18, 3) := by decide +kernel
theorem dX0_apartIn_9 : decode cX0_apartIn 9 = .ok (.invokevirtual 38, 3) := by decide +kernel
theorem dX0_apartIn_12 : decode cX0_apartIn 12 = .ok (.iload_n 1, 1) := by decide +kernel
theorem dX0_apartIn_13 : decode cX0_apartIn 13 = .ok (.iconst (-1), 1) := by decide +kernel
theorem dX0_apartIn_14 : decode cX0_apartIn 14 = .ok (.ixor, 1) := by decide +kernel
theorem dX0_apartIn_15 : decode cX0_apartIn 15 = .ok (.iand, 1) := by decide +kernel
theorem dX0_apartIn_16 : decode cX0_apartIn 16 = .ok (.iaload, 1) := by decide +kernel
theorem dX0_apartIn_17 : decode cX0_apartIn 17 = .ok (.iconst (-1), 1) := by decide +kernel
theorem dX0_apartIn_18 : decode cX0_apartIn 18 = .ok (.ixor, 1) := by decide +kernel
theorem dX0_apartIn_19 : decode cX0_apartIn 19 = .ok (.iand, 1) := by decide +kernel
theorem dX0_apartIn_20 : decode cX0_apartIn 20 = .ok (.ireturn, 1) := by decide +kernel
theorem dX0_greaterOf_0 : decode cX0_greaterOf 0 = .ok (.iload_n 0, 1) := by decide +kernel
theorem dX0_greaterOf_1 : decode cX0_greaterOf 1 = .ok (.invokestatic 42, 3) := by decide +kernel
theorem dX0_greaterOf_4 : decode cX0_greaterOf 4 = .ok (.iload_n 1, 1) := by decide +kernel
theorem dX0_greaterOf_5 : decode cX0_greaterOf 5 = .ok (.invokestatic 42, 3) := by decide +kernel
theorem dX0_greaterOf_8 : decode cX0_greaterOf 8 = .ok (.iconst 2, 1) := by decide +kernel
theorem dX0_greaterOf_9 : decode cX0_greaterOf 9 = .ok (.idiv, 1) := by decide +kernel
theorem dX0_greaterOf_10 : decode cX0_greaterOf 10 = .ok (.isub, 1) := by decide +kernel
theorem dX0_greaterOf_11 : decode cX0_greaterOf 11 = .ok (.ireturn, 1) := by decide +kernel
theorem dX0_findPair_0 : decode cX0_findPair 0 = .ok (.aload_n 0, 1) := by decide +kernel
theorem dX0_findPair_1 : decode cX0_findPair 1 = .ok (.invokevirtual 48, 3) := by decide +kernel
theorem dX0_findPair_4 : decode cX0_findPair 4 = .ok (.aload_n 0, 1) := by decide +kernel
theorem dX0_findPair_5 : decode cX0_findPair 5 = .ok (.bipush 13, 2) := by decide +kernel
theorem dX0_findPair_7 : decode cX0_findPair 7 = .ok (.putfield 51, 3) := by decide +kernel
theorem dX0_findPair_10 : decode cX0_findPair 10 = .ok (.aload_n 0, 1) := by decide +kernel
theorem dX0_findPair_11 : decode cX0_findPair 11 = .ok (.iconst 0, 1) := by decide +kernel
theorem dX0_findPair_12 : decode cX0_findPair 12 = .ok (.putfield 54, 3) := by decide +kernel
theorem dX0_findPair_15 : decode cX0_findPair 15 = .ok (.aload_n 0, 1) := by decide +kernel
theorem dX0_findPair_16 : decode cX0_findPair 16 = .ok (.iconst 0, 1) := by decide +kernel
theorem dX0_findPair_17 : decode cX0_findPair 17 = .ok (.putfield 57, 3) := by decide +kernel
theorem dX0_findPair_20 : decode cX0_findPair 20 = .ok (.iconst 1, 1) := by decide +kernel
theorem dX0_findPair_21 : decode cX0_findPair 21 = .ok (.aload_n 0, 1) := by decide +kernel
theorem dX0_findPair_22 : decode cX0_findPair 22 = .ok (.getfield 18, 3) := by decide +kernel
theorem dX0_findPair_25 : decode cX0_findPair 25 = .ok (.getfield 34, 3) := by decide +kernel
theorem dX0_findPair_28 : decode cX0_findPair 28 = .ok (.ishl, 1) := by decide +kernel
theorem dX0_findPair_29 : decode cX0_findPair 29 = .ok (.istore_n 1, 1) := by decide +kernel
theorem dX0_findPair_30 : decode cX0_findPair 30 = .ok (.iconst 1, 1) := by decide +kernel
theorem dX0_findPair_31 : decode cX0_findPair 31 = .ok (.istore_n 2, 1) := by decide +kernel
theorem dX0_findPair_32 : decode cX0_findPair 32 = .ok (.iload_n 2, 1) := by decide +kernel
theorem dX0_findPair_33 : decode cX0_findPair 33 = .ok (.iload_n 1, 1) := by decide +kernel
theorem dX0_findPair_34 : decode cX0_findPair 34 = .ok (.if_icmp .ge 50, 3) := by decide +kernel
theorem dX0_findPair_37 : decode cX0_findPair 37 = .ok (.aload_n 0, 1) := by decide +kernel
theorem dX0_findPair_38 : decode cX0_findPair 38 = .ok (.iload_n 2, 1) := by decide +kernel
theorem dX0_findPair_39 : decode cX0_findPair 39 = .ok (.invokevirtual 60, 3) := by decide +kernel
theorem dX0_findPair_42 : decode cX0_findPair 42 = .ok (.istore_n 3, 1) := by decide +kernel
theorem dX0_findPair_43 : decode cX0_findPair 43 = .ok (.iload_n 3, 1) := by decide +kernel
theorem dX0_findPair_44 : decode cX0_findPair 44 = .ok (.ifCond .eq 34, 3) := by decide +kernel
theorem dX0_findPair_47 : decode cX0_findPair 47 = .ok (.iload_n 2, 1) := by decide +kernel
theorem dX0_findPair_48 : decode cX0_findPair 48 = .ok (.iload_n 3, 1) := by decide +kernel
theorem dX0_findPair_49 : decode cX0_findPair 49 = .ok (.invokestatic 63, 3) := by decide +kernel
theorem dX0_findPair_52 : decode cX0_findPair 52 = .ok (.aload_n 0, 1) := by decide +kernel
theorem dX0_findPair_53 : decode cX0_findPair 53 = .ok (.getfield 51, 3) := by decide +kernel
theorem dX0_findPair_56 : decode cX0_findPair 56 = .ok (.if_icmp .ge 22, 3) := by decide +kernel
theorem dX0_findPair_59 : decode cX0_findPair 59 = .ok (.aload_n 0, 1) := by decide +kernel
theorem dX0_findPair_60 : decode cX0_findPair 60 = .ok (.iload_n 2, 1) := by decide +kernel
theorem dX0_findPair_61 : decode cX0_findPair 61 = .ok (.iload_n 3, 1) := by decide +kernel
theorem dX0_findPair_62 : decode cX0_findPair 62 = .ok (.invokestatic 63, 3) := by decide +kernel
theorem dX0_findPair_65 : decode cX0_findPair 65 = .ok (.putfield 51, 3) := by decide +kernel
theorem dX0_findPair_68 : decode cX0_findPair 68 = .ok (.aload_n 0, 1) := by decide +kernel
theorem dX0_findPair_69 : decode cX0_findPair 69 = .ok (.iload_n 2, 1) := by decide +kernel
theorem dX0_findPair_70 : decode cX0_findPair 70 = .ok (.putfield 54, 3) := by decide +kernel
theorem dX0_findPair_73 : decode cX0_findPair 73 = .ok (.aload_n 0, 1) := by decide +kernel
theorem dX0_findPair_74 : decode cX0_findPair 74 = .ok (.iload_n 3, 1) := by decide +kernel
theorem dX0_findPair_75 : decode cX0_findPair 75 = .ok (.putfield 57, 3) := by decide +kernel
theorem dX0_findPair_78 : decode cX0_findPair 78 = .ok (.iinc 2 1, 3) := by decide +kernel
theorem dX0_findPair_81 : decode cX0_findPair 81 = .ok (.goto (-49), 3) := by decide +kernel
theorem dX0_findPair_84 : decode cX0_findPair 84 = .ok (.return_, 1) := by decide +kernel
theorem dX0_knowable_0 : decode cX0_knowable 0 = .ok (.aload_n 0, 1) := by decide +kernel
theorem dX0_knowable_1 : decode cX0_knowable 1 = .ok (.getfield 51, 3) := by decide +kernel
theorem dX0_knowable_4 : decode cX0_knowable 4 = .ok (.iconst 1, 1) := by decide +kernel
theorem dX0_knowable_5 : decode cX0_knowable 5 = .ok (.isub, 1) := by decide +kernel
theorem dX0_knowable_6 : decode cX0_knowable 6 = .ok (.ireturn, 1) := by decide +kernel
theorem dX0_lowerHalf_0 : decode cX0_lowerHalf 0 = .ok (.iconst 0, 1) := by decide +kernel
theorem dX0_lowerHalf_1 : decode cX0_lowerHalf 1 = .ok (.istore_n 1, 1) := by decide +kernel
theorem dX0_lowerHalf_2 : decode cX0_lowerHalf 2 = .ok (.aload_n 0, 1) := by decide +kernel
theorem dX0_lowerHalf_3 : decode cX0_lowerHalf 3 = .ok (.getfield 57, 3) := by decide +kernel
theorem dX0_lowerHalf_6 : decode cX0_lowerHalf 6 = .ok (.invokestatic 42, 3) := by decide +kernel
theorem dX0_lowerHalf_9 : decode cX0_lowerHalf 9 = .ok (.iconst 1, 1) := by decide +kernel
theorem dX0_lowerHalf_10 : decode cX0_lowerHalf 10 = .ok (.iadd, 1) := by decide +kernel
theorem dX0_lowerHalf_11 : decode cX0_lowerHalf 11 = .ok (.iconst 2, 1) := by decide +kernel
theorem dX0_lowerHalf_12 : decode cX0_lowerHalf 12 = .ok (.idiv, 1) := by decide +kernel
theorem dX0_lowerHalf_13 : decode cX0_lowerHalf 13 = .ok (.istore_n 2, 1) := by decide +kernel
theorem dX0_lowerHalf_14 : decode cX0_lowerHalf 14 = .ok (.iconst 0, 1) := by decide +kernel
theorem dX0_lowerHalf_15 : decode cX0_lowerHalf 15 = .ok (.istore_n 3, 1) := by decide +kernel
theorem dX0_lowerHalf_16 : decode cX0_lowerHalf 16 = .ok (.iload_n 3, 1) := by decide +kernel
theorem dX0_lowerHalf_17 : decode cX0_lowerHalf 17 = .ok (.bipush 12, 2) := by decide +kernel
theorem dX0_lowerHalf_19 : decode cX0_lowerHalf 19 = .ok (.if_icmp .ge 34, 3) := by decide +kernel
theorem dX0_lowerHalf_22 : decode cX0_lowerHalf 22 = .ok (.aload_n 0, 1) := by decide +kernel
theorem dX0_lowerHalf_23 : decode cX0_lowerHalf 23 = .ok (.getfield 57, 3) := by decide +kernel
theorem dX0_lowerHalf_26 : decode cX0_lowerHalf 26 = .ok (.iload_n 3, 1) := by decide +kernel
theorem dX0_lowerHalf_27 : decode cX0_lowerHalf 27 = .ok (.ishr, 1) := by decide +kernel
theorem dX0_lowerHalf_28 : decode cX0_lowerHalf 28 = .ok (.iconst 1, 1) := by decide +kernel
theorem dX0_lowerHalf_29 : decode cX0_lowerHalf 29 = .ok (.iand, 1) := by decide +kernel
theorem dX0_lowerHalf_30 : decode cX0_lowerHalf 30 = .ok (.ifCond .eq 17, 3) := by decide +kernel
theorem dX0_lowerHalf_33 : decode cX0_lowerHalf 33 = .ok (.iload_n 1, 1) := by decide +kernel
theorem dX0_lowerHalf_34 : decode cX0_lowerHalf 34 = .ok (.invokestatic 42, 3) := by decide +kernel
theorem dX0_lowerHalf_37 : decode cX0_lowerHalf 37 = .ok (.iload_n 2, 1) := by decide +kernel
theorem dX0_lowerHalf_38 : decode cX0_lowerHalf 38 = .ok (.if_icmp .ge 9, 3) := by decide +kernel
theorem dX0_lowerHalf_41 : decode cX0_lowerHalf 41 = .ok (.iload_n 1, 1) := by decide +kernel
theorem dX0_lowerHalf_42 : decode cX0_lowerHalf 42 = .ok (.iconst 1, 1) := by decide +kernel
theorem dX0_lowerHalf_43 : decode cX0_lowerHalf 43 = .ok (.iload_n 3, 1) := by decide +kernel
theorem dX0_lowerHalf_44 : decode cX0_lowerHalf 44 = .ok (.ishl, 1) := by decide +kernel
theorem dX0_lowerHalf_45 : decode cX0_lowerHalf 45 = .ok (.ior, 1) := by decide +kernel
theorem dX0_lowerHalf_46 : decode cX0_lowerHalf 46 = .ok (.istore_n 1, 1) := by decide +kernel
theorem dX0_lowerHalf_47 : decode cX0_lowerHalf 47 = .ok (.iinc 3 1, 3) := by decide +kernel
theorem dX0_lowerHalf_50 : decode cX0_lowerHalf 50 = .ok (.goto (-34), 3) := by decide +kernel
theorem dX0_lowerHalf_53 : decode cX0_lowerHalf 53 = .ok (.iload_n 1, 1) := by decide +kernel
theorem dX0_lowerHalf_54 : decode cX0_lowerHalf 54 = .ok (.ireturn, 1) := by decide +kernel
theorem dX0_firstOfPair_0 : decode cX0_firstOfPair 0 = .ok (.aload_n 0, 1) := by decide +kernel
theorem dX0_firstOfPair_1 : decode cX0_firstOfPair 1 = .ok (.getfield 54, 3) := by decide +kernel
theorem dX0_firstOfPair_4 : decode cX0_firstOfPair 4 = .ok (.aload_n 0, 1) := by decide +kernel
theorem dX0_firstOfPair_5 : decode cX0_firstOfPair 5 = .ok (.getfield 57, 3) := by decide +kernel
theorem dX0_firstOfPair_8 : decode cX0_firstOfPair 8 = .ok (.iconst (-1), 1) := by decide +kernel
theorem dX0_firstOfPair_9 : decode cX0_firstOfPair 9 = .ok (.ixor, 1) := by decide +kernel
theorem dX0_firstOfPair_10 : decode cX0_firstOfPair 10 = .ok (.iand, 1) := by decide +kernel
theorem dX0_firstOfPair_11 : decode cX0_firstOfPair 11 = .ok (.aload_n 0, 1) := by decide +kernel
theorem dX0_firstOfPair_12 : decode cX0_firstOfPair 12 = .ok (.invokevirtual 67, 3) := by decide +kernel
theorem dX0_firstOfPair_15 : decode cX0_firstOfPair 15 = .ok (.ior, 1) := by decide +kernel
theorem dX0_firstOfPair_16 : decode cX0_firstOfPair 16 = .ok (.ireturn, 1) := by decide +kernel
theorem dX0_otherOfPair_0 : decode cX0_otherOfPair 0 = .ok (.aload_n 0, 1) := by decide +kernel
theorem dX0_otherOfPair_1 : decode cX0_otherOfPair 1 = .ok (.getfield 54, 3) := by decide +kernel
theorem dX0_otherOfPair_4 : decode cX0_otherOfPair 4 = .ok (.aload_n 0, 1) := by decide +kernel
theorem dX0_otherOfPair_5 : decode cX0_otherOfPair 5 = .ok (.invokevirtual 67, 3) := by decide +kernel
theorem dX0_otherOfPair_8 : decode cX0_otherOfPair 8 = .ok (.iconst (-1), 1) := by decide +kernel
theorem dX0_otherOfPair_9 : decode cX0_otherOfPair 9 = .ok (.ixor, 1) := by decide +kernel
theorem dX0_otherOfPair_10 : decode cX0_otherOfPair 10 = .ok (.iand, 1) := by decide +kernel
theorem dX0_otherOfPair_11 : decode cX0_otherOfPair 11 = .ok (.ireturn, 1) := by decide +kernel
theorem dX0_bestMissingTie_0 : decode cX0_bestMissingTie 0 = .ok (.iconst (-1), 1) := by decide +kernel
theorem dX0_bestMissingTie_1 : decode cX0_bestMissingTie 1 = .ok (.istore_n 1, 1) := by decide +kernel
theorem dX0_bestMissingTie_2 : decode cX0_bestMissingTie 2 = .ok (.iconst 0, 1) := by decide +kernel
theorem dX0_bestMissingTie_3 : decode cX0_bestMissingTie 3 = .ok (.istore_n 2, 1) := by decide +kernel
theorem dX0_bestMissingTie_4 : decode cX0_bestMissingTie 4 = .ok (.iconst 0, 1) := by decide +kernel
theorem dX0_bestMissingTie_5 : decode cX0_bestMissingTie 5 = .ok (.istore_n 3, 1) := by decide +kernel
theorem dX0_bestMissingTie_6 : decode cX0_bestMissingTie 6 = .ok (.iload_n 3, 1) := by decide +kernel
theorem dX0_bestMissingTie_7 : decode cX0_bestMissingTie 7 = .ok (.aload_n 0, 1) := by decide +kernel
theorem dX0_bestMissingTie_8 : decode cX0_bestMissingTie 8 = .ok (.getfield 18, 3) := by decide +kernel
theorem dX0_bestMissingTie_11 : decode cX0_bestMissingTie 11 = .ok (.getfield 34, 3) := by decide +kernel
theorem dX0_bestMissingTie_14 : decode cX0_bestMissingTie 14 = .ok (.if_icmp .ge 76, 3) := by decide +kernel
theorem dX0_bestMissingTie_17 : decode cX0_bestMissingTie 17 = .ok (.iconst 0, 1) := by decide +kernel
theorem dX0_bestMissingTie_18 : decode cX0_bestMissingTie 18 = .ok (.istore 4, 2) := by decide +kernel
theorem dX0_bestMissingTie_20 : decode cX0_bestMissingTie 20 = .ok (.iload 4, 2) := by decide +kernel
theorem dX0_bestMissingTie_22 : decode cX0_bestMissingTie 22 = .ok (.aload_n 0, 1) := by decide +kernel
theorem dX0_bestMissingTie_23 : decode cX0_bestMissingTie 23 = .ok (.getfield 18, 3) := by decide +kernel
theorem dX0_bestMissingTie_26 : decode cX0_bestMissingTie 26 = .ok (.getfield 34, 3) := by decide +kernel
theorem dX0_bestMissingTie_29 : decode cX0_bestMissingTie 29 = .ok (.if_icmp .ge 55, 3) := by decide +kernel
theorem dX0_bestMissingTie_32 : decode cX0_bestMissingTie 32 = .ok (.iload_n 3, 1) := by decide +kernel
theorem dX0_bestMissingTie_33 : decode cX0_bestMissingTie 33 = .ok (.iload 4, 2) := by decide +kernel
theorem dX0_bestMissingTie_35 : decode cX0_bestMissingTie 35 = .ok (.if_icmp .eq 43, 3) := by decide +kernel
theorem dX0_bestMissingTie_38 : decode cX0_bestMissingTie 38 = .ok (.aload_n 0, 1) := by decide +kernel
theorem dX0_bestMissingTie_39 : decode cX0_bestMissingTie 39 = .ok (.getfield 18, 3) := by decide +kernel
theorem dX0_bestMissingTie_42 : decode cX0_bestMissingTie 42 = .ok (.iload_n 3, 1) := by decide +kernel
theorem dX0_bestMissingTie_43 : decode cX0_bestMissingTie 43 = .ok (.iload 4, 2) := by decide +kernel
theorem dX0_bestMissingTie_45 : decode cX0_bestMissingTie 45 = .ok (.invokevirtual 70, 3) := by decide +kernel
theorem dX0_bestMissingTie_48 : decode cX0_bestMissingTie 48 = .ok (.ifCond .ne 30, 3) := by decide +kernel
theorem dX0_bestMissingTie_51 : decode cX0_bestMissingTie 51 = .ok (.aload_n 0, 1) := by decide +kernel
theorem dX0_bestMissingTie_52 : decode cX0_bestMissingTie 52 = .ok (.iload_n 3, 1) := by decide +kernel
theorem dX0_bestMissingTie_53 : decode cX0_bestMissingTie 53 = .ok (.iload 4, 2) := by decide +kernel
theorem dX0_bestMissingTie_55 : decode cX0_bestMissingTie 55 = .ok (.iload_n 2, 1) := by decide +kernel
theorem dX0_bestMissingTie_56 : decode cX0_bestMissingTie 56 = .ok (.invokevirtual 74, 3) := by decide +kernel
theorem dX0_bestMissingTie_59 : decode cX0_bestMissingTie 59 = .ok (.istore 5, 2) := by decide +kernel
theorem dX0_bestMissingTie_61 : decode cX0_bestMissingTie 61 = .ok (.iload 5, 2) := by decide +kernel
theorem dX0_bestMissingTie_63 : decode cX0_bestMissingTie 63 = .ok (.iload_n 2, 1) := by decide +kernel
theorem dX0_bestMissingTie_64 : decode cX0_bestMissingTie 64 = .ok (.if_icmp .le 14, 3) := by decide +kernel
theorem dX0_bestMissingTie_67 : decode cX0_bestMissingTie 67 = .ok (.iload 5, 2) := by decide +kernel
theorem dX0_bestMissingTie_69 : decode cX0_bestMissingTie 69 = .ok (.istore_n 2, 1) := by decide +kernel
theorem dX0_bestMissingTie_70 : decode cX0_bestMissingTie 70 = .ok (.bipush 100, 2) := by decide +kernel
theorem dX0_bestMissingTie_72 : decode cX0_bestMissingTie 72 = .ok (.iload_n 3, 1) := by decide +kernel
theorem dX0_bestMissingTie_73 : decode cX0_bestMissingTie 73 = .ok (.imul, 1) := by decide +kernel
theorem dX0_bestMissingTie_74 : decode cX0_bestMissingTie 74 = .ok (.iload 4, 2) := by decide +kernel
theorem dX0_bestMissingTie_76 : decode cX0_bestMissingTie 76 = .ok (.iadd, 1) := by decide +kernel
theorem dX0_bestMissingTie_77 : decode cX0_bestMissingTie 77 = .ok (.istore_n 1, 1) := by decide +kernel
theorem dX0_bestMissingTie_78 : decode cX0_bestMissingTie 78 = .ok (.iinc 4 1, 3) := by decide +kernel
theorem dX0_bestMissingTie_81 : decode cX0_bestMissingTie 81 = .ok (.goto (-61), 3) := by decide +kernel
theorem dX0_bestMissingTie_84 : decode cX0_bestMissingTie 84 = .ok (.iinc 3 1, 3) := by decide +kernel
theorem dX0_bestMissingTie_87 : decode cX0_bestMissingTie 87 = .ok (.goto (-81), 3) := by decide +kernel
theorem dX0_bestMissingTie_90 : decode cX0_bestMissingTie 90 = .ok (.iload_n 1, 1) := by decide +kernel
theorem dX0_bestMissingTie_91 : decode cX0_bestMissingTie 91 = .ok (.ireturn, 1) := by decide +kernel
theorem dX0_greaterWith_0 : decode cX0_greaterWith 0 = .ok (.aload_n 0, 1) := by decide +kernel
theorem dX0_greaterWith_1 : decode cX0_greaterWith 1 = .ok (.getfield 54, 3) := by decide +kernel
theorem dX0_greaterWith_4 : decode cX0_greaterWith 4 = .ok (.aload_n 0, 1) := by decide +kernel
theorem dX0_greaterWith_5 : decode cX0_greaterWith 5 = .ok (.getfield 57, 3) := by decide +kernel
theorem dX0_greaterWith_8 : decode cX0_greaterWith 8 = .ok (.iload_n 1, 1) := by decide +kernel
theorem dX0_greaterWith_9 : decode cX0_greaterWith 9 = .ok (.iload_n 2, 1) := by decide +kernel
theorem dX0_greaterWith_10 : decode cX0_greaterWith 10 = .ok (.invokestatic 78, 3) := by decide +kernel
theorem dX0_greaterWith_13 : decode cX0_greaterWith 13 = .ok (.iload_n 3, 1) := by decide +kernel
theorem dX0_greaterWith_14 : decode cX0_greaterWith 14 = .ok (.if_icmp .gt 5, 3) := by decide +kernel
theorem dX0_greaterWith_17 : decode cX0_greaterWith 17 = .ok (.iload_n 3, 1) := by decide +kernel
theorem dX0_greaterWith_18 : decode cX0_greaterWith 18 = .ok (.ireturn, 1) := by decide +kernel
theorem dX0_greaterWith_19 : decode cX0_greaterWith 19 = .ok (.bipush 13, 2) := by decide +kernel
theorem dX0_greaterWith_21 : decode cX0_greaterWith 21 = .ok (.istore 4, 2) := by decide +kernel
theorem dX0_greaterWith_23 : decode cX0_greaterWith 23 = .ok (.iconst 1, 1) := by decide +kernel
theorem dX0_greaterWith_24 : decode cX0_greaterWith 24 = .ok (.aload_n 0, 1) := by decide +kernel
theorem dX0_greaterWith_25 : decode cX0_greaterWith 25 = .ok (.getfield 18, 3) := by decide +kernel
theorem dX0_greaterWith_28 : decode cX0_greaterWith 28 = .ok (.getfield 34, 3) := by decide +kernel
theorem dX0_greaterWith_31 : decode cX0_greaterWith 31 = .ok (.ishl, 1) := by decide +kernel
theorem dX0_greaterWith_32 : decode cX0_greaterWith 32 = .ok (.istore 5, 2) := by decide +kernel
theorem dX0_greaterWith_34 : decode cX0_greaterWith 34 = .ok (.iconst 1, 1) := by decide +kernel
theorem dX0_greaterWith_35 : decode cX0_greaterWith 35 = .ok (.istore 6, 2) := by decide +kernel
theorem dX0_greaterWith_37 : decode cX0_greaterWith 37 = .ok (.iload 6, 2) := by decide +kernel
theorem dX0_greaterWith_39 : decode cX0_greaterWith 39 = .ok (.iload 5, 2) := by decide +kernel
theorem dX0_greaterWith_41 : decode cX0_greaterWith 41 = .ok (.if_icmp .ge 35, 3) := by decide +kernel
theorem dX0_greaterWith_44 : decode cX0_greaterWith 44 = .ok (.iload 4, 2) := by decide +kernel
theorem dX0_greaterWith_46 : decode cX0_greaterWith 46 = .ok (.iload_n 3, 1) := by decide +kernel
theorem dX0_greaterWith_47 : decode cX0_greaterWith 47 = .ok (.if_icmp .le 29, 3) := by decide +kernel
theorem dX0_greaterWith_50 : decode cX0_greaterWith 50 = .ok (.iload 4, 2) := by decide +kernel
theorem dX0_greaterWith_52 : decode cX0_greaterWith 52 = .ok (.iload 6, 2) := by decide +kernel
theorem dX0_greaterWith_54 : decode cX0_greaterWith 54 = .ok (.aload_n 0, 1) := by decide +kernel
theorem dX0_greaterWith_55 : decode cX0_greaterWith 55 = .ok (.iload 6, 2) := by decide +kernel
theorem dX0_greaterWith_57 : decode cX0_greaterWith 57 = .ok (.invokevirtual 60, 3) := by decide +kernel
theorem dX0_greaterWith_60 : decode cX0_greaterWith 60 = .ok (.iload_n 1, 1) := by decide +kernel
theorem dX0_greaterWith_61 : decode cX0_greaterWith 61 = .ok (.iload_n 2, 1) := by decide +kernel
theorem dX0_greaterWith_62 : decode cX0_greaterWith 62 = .ok (.invokestatic 78, 3) := by decide +kernel
theorem dX0_greaterWith_65 : decode cX0_greaterWith 65 = .ok (.invokestatic 82, 3) := by decide +kernel
theorem dX0_greaterWith_68 : decode cX0_greaterWith 68 = .ok (.istore 4, 2) := by decide +kernel
theorem dX0_greaterWith_70 : decode cX0_greaterWith 70 = .ok (.iinc 6 1, 3) := by decide +kernel
theorem dX0_greaterWith_73 : decode cX0_greaterWith 73 = .ok (.goto (-36), 3) := by decide +kernel
theorem dX0_greaterWith_76 : decode cX0_greaterWith 76 = .ok (.iload 4, 2) := by decide +kernel
theorem dX0_greaterWith_78 : decode cX0_greaterWith 78 = .ok (.ireturn, 1) := by decide +kernel
theorem dX0_changedGreater_0 : decode cX0_changedGreater 0 = .ok (.iload_n 0, 1) := by decide +kernel
theorem dX0_changedGreater_1 : decode cX0_changedGreater 1 = .ok (.iload_n 2, 1) := by decide +kernel
theorem dX0_changedGreater_2 : decode cX0_changedGreater 2 = .ok (.ishr, 1) := by decide +kernel
theorem dX0_changedGreater_3 : decode cX0_changedGreater 3 = .ok (.iconst 1, 1) := by decide +kernel
theorem dX0_changedGreater_4 : decode cX0_changedGreater 4 = .ok (.iand, 1) := by decide +kernel
theorem dX0_changedGreater_5 : decode cX0_changedGreater 5 = .ok (.ifCond .eq 7, 3) := by decide +kernel
theorem dX0_changedGreater_8 : decode cX0_changedGreater 8 = .ok (.iload_n 1, 1) := by decide +kernel
theorem dX0_changedGreater_9 : decode cX0_changedGreater 9 = .ok (.goto 10, 3) := by decide +kernel
theorem dX0_changedGreater_12 : decode cX0_changedGreater 12 = .ok (.iload_n 1, 1) := by decide +kernel
theorem dX0_changedGreater_13 : decode cX0_changedGreater 13 = .ok (.iconst 1, 1) := by decide +kernel
theorem dX0_changedGreater_14 : decode cX0_changedGreater 14 = .ok (.iload_n 3, 1) := by decide +kernel
theorem dX0_changedGreater_15 : decode cX0_changedGreater 15 = .ok (.ishl, 1) := by decide +kernel
theorem dX0_changedGreater_16 : decode cX0_changedGreater 16 = .ok (.iconst (-1), 1) := by decide +kernel
theorem dX0_changedGreater_17 : decode cX0_changedGreater 17 = .ok (.ixor, 1) := by decide +kernel
theorem dX0_changedGreater_18 : decode cX0_changedGreater 18 = .ok (.iand, 1) := by decide +kernel
theorem dX0_changedGreater_19 : decode cX0_changedGreater 19 = .ok (.istore 4, 2) := by decide +kernel
theorem dX0_changedGreater_21 : decode cX0_changedGreater 21 = .ok (.iload 4, 2) := by decide +kernel
theorem dX0_changedGreater_23 : decode cX0_changedGreater 23 = .ok (.ifCond .ne 8, 3) := by decide +kernel
theorem dX0_changedGreater_26 : decode cX0_changedGreater 26 = .ok (.bipush 13, 2) := by decide +kernel
theorem dX0_changedGreater_28 : decode cX0_changedGreater 28 = .ok (.goto 9, 3) := by decide +kernel
theorem dX0_changedGreater_31 : decode cX0_changedGreater 31 = .ok (.iload_n 0, 1) := by decide +kernel
theorem dX0_changedGreater_32 : decode cX0_changedGreater 32 = .ok (.iload 4, 2) := by decide +kernel
theorem dX0_changedGreater_34 : decode cX0_changedGreater 34 = .ok (.invokestatic 63, 3) := by decide +kernel
theorem dX0_changedGreater_37 : decode cX0_changedGreater 37 = .ok (.ireturn, 1) := by decide +kernel
theorem dX1_init_0 : decode cX1_init 0 = .ok (.aload_n 0, 1) := by decide +kernel
theorem dX1_init_1 : decode cX1_init 1 = .ok (.invokespecial 3, 3) := by decide +kernel
theorem dX1_init_4 : decode cX1_init 4 = .ok (.aload_n 0, 1) := by decide +kernel
theorem dX1_init_5 : decode cX1_init 5 = .ok (.new 9, 3) := by decide +kernel
theorem dX1_init_8 : decode cX1_init 8 = .ok (.dup, 1) := by decide +kernel
theorem dX1_init_9 : decode cX1_init 9 = .ok (.invokespecial 11, 3) := by decide +kernel
theorem dX1_init_12 : decode cX1_init 12 = .ok (.putfield 12, 3) := by decide +kernel
theorem dX1_init_15 : decode cX1_init 15 = .ok (.aload_n 0, 1) := by decide +kernel
theorem dX1_init_16 : decode cX1_init 16 = .ok (.sipush 4096, 3) := by decide +kernel
theorem dX1_init_19 : decode cX1_init 19 = .ok (.newarray .int, 2) := by decide +kernel
theorem dX1_init_21 : decode cX1_init 21 = .ok (.putfield 18, 3) := by decide +kernel
theorem dX1_init_24 : decode cX1_init 24 = .ok (.aload_n 0, 1) := by decide +kernel
theorem dX1_init_25 : decode cX1_init 25 = .ok (.bipush 14, 2) := by decide +kernel
theorem dX1_init_27 : decode cX1_init 27 = .ok (.newarray .int, 2) := by decide +kernel
theorem dX1_init_29 : decode cX1_init 29 = .ok (.putfield 22, 3) := by decide +kernel
theorem dX1_init_32 : decode cX1_init 32 = .ok (.aload_n 0, 1) := by decide +kernel
theorem dX1_init_33 : decode cX1_init 33 = .ok (.sipush 4096, 3) := by decide +kernel
theorem dX1_init_36 : decode cX1_init 36 = .ok (.newarray .int, 2) := by decide +kernel
theorem dX1_init_38 : decode cX1_init 38 = .ok (.putfield 25, 3) := by decide +kernel
theorem dX1_init_41 : decode cX1_init 41 = .ok (.aload_n 0, 1) := by decide +kernel
theorem dX1_init_42 : decode cX1_init 42 = .ok (.sipush 4096, 3) := by decide +kernel
theorem dX1_init_45 : decode cX1_init 45 = .ok (.newarray .int, 2) := by decide +kernel
theorem dX1_init_47 : decode cX1_init 47 = .ok (.putfield 28, 3) := by decide +kernel
theorem dX1_init_50 : decode cX1_init 50 = .ok (.aload_n 0, 1) := by decide +kernel
theorem dX1_init_51 : decode cX1_init 51 = .ok (.sipush 4096, 3) := by decide +kernel
theorem dX1_init_54 : decode cX1_init 54 = .ok (.newarray .long, 2) := by decide +kernel
theorem dX1_init_56 : decode cX1_init 56 = .ok (.putfield 31, 3) := by decide +kernel
theorem dX1_init_59 : decode cX1_init 59 = .ok (.aload_n 0, 1) := by decide +kernel
theorem dX1_init_60 : decode cX1_init 60 = .ok (.aload_n 1, 1) := by decide +kernel
theorem dX1_init_61 : decode cX1_init 61 = .ok (.putfield 35, 3) := by decide +kernel
theorem dX1_init_64 : decode cX1_init 64 = .ok (.return_, 1) := by decide +kernel
theorem dX1_refresh_0 : decode cX1_refresh 0 = .ok (.aload_n 0, 1) := by decide +kernel
theorem dX1_refresh_1 : decode cX1_refresh 1 = .ok (.getfield 35, 3) := by decide +kernel
theorem dX1_refresh_4 : decode cX1_refresh 4 = .ok (.getfield 39, 3) := by decide +kernel
theorem dX1_refresh_7 : decode cX1_refresh 7 = .ok (.ifCond .ne 4, 3) := by decide +kernel
theorem dX1_refresh_10 : decode cX1_refresh 10 = .ok (.return_, 1) := by decide +kernel
theorem dX1_refresh_11 : decode cX1_refresh 11 = .ok (.aload_n 0, 1) := by decide +kernel
theorem dX1_refresh_12 : decode cX1_refresh 12 = .ok (.getfield 12, 3) := by decide +kernel
theorem dX1_refresh_15 : decode cX1_refresh 15 = .ok (.invokevirtual 45, 3) := by decide +kernel
theorem dX1_refresh_18 : decode cX1_refresh 18 = .ok (.iconst 0, 1) := by decide +kernel
theorem dX1_refresh_19 : decode cX1_refresh 19 = .ok (.istore_n 1, 1) := by decide +kernel
theorem dX1_refresh_20 : decode cX1_refresh 20 = .ok (.iload_n 1, 1) := by decide +kernel
theorem dX1_refresh_21 : decode cX1_refresh 21 = .ok (.aload_n 0, 1) := by decide +kernel
theorem dX1_refresh_22 : decode cX1_refresh 22 = .ok (.getfield 35, 3) := by decide +kernel
theorem dX1_refresh_25 : decode cX1_refresh 25 = .ok (.getfield 48, 3) := by decide +kernel
theorem dX1_refresh_28 : decode cX1_refresh 28 = .ok (.if_icmp .ge 75, 3) := by decide +kernel
theorem dX1_refresh_31 : decode cX1_refresh 31 = .ok (.aload_n 0, 1) := by decide +kernel
theorem dX1_refresh_32 : decode cX1_refresh 32 = .ok (.getfield 35, 3) := by decide +kernel
theorem dX1_refresh_35 : decode cX1_refresh 35 = .ok (.iload_n 1, 1) := by decide +kernel
theorem dX1_refresh_36 : decode cX1_refresh 36 = .ok (.invokevirtual 52, 3) := by decide +kernel
theorem dX1_refresh_39 : decode cX1_refresh 39 = .ok (.ifCond .eq 58, 3) := by decide +kernel
theorem dX1_refresh_42 : decode cX1_refresh 42 = .ok (.aload_n 0, 1) := by decide +kernel
theorem dX1_refresh_43 : decode cX1_refresh 43 = .ok (.getfield 35, 3) := by decide +kernel
theorem dX1_refresh_46 : decode cX1_refresh 46 = .ok (.getfield 56, 3) := by decide +kernel
theorem dX1_refresh_49 : decode cX1_refresh 49 = .ok (.aload_n 0, 1) := by decide +kernel
theorem dX1_refresh_50 : decode cX1_refresh 50 = .ok (.getfield 35, 3) := by decide +kernel
theorem dX1_refresh_53 : decode cX1_refresh 53 = .ok (.getfield 59, 3) := by decide +kernel
theorem dX1_refresh_56 : decode cX1_refresh 56 = .ok (.iload_n 1, 1) := by decide +kernel
theorem dX1_refresh_57 : decode cX1_refresh 57 = .ok (.iaload, 1) := by decide +kernel
theorem dX1_refresh_58 : decode cX1_refresh 58 = .ok (.iaload, 1) := by decide +kernel
theorem dX1_refresh_59 : decode cX1_refresh 59 = .ok (.aload_n 0, 1) := by decide +kernel
theorem dX1_refresh_60 : decode cX1_refresh 60 = .ok (.getfield 35, 3) := by decide +kernel
theorem dX1_refresh_63 : decode cX1_refresh 63 = .ok (.iload_n 1, 1) := by decide +kernel
theorem dX1_refresh_64 : decode cX1_refresh 64 = .ok (.invokevirtual 62, 3) := by decide +kernel
theorem dX1_refresh_67 : decode cX1_refresh 67 = .ok (.invokestatic 65, 3) := by decide +kernel
theorem dX1_refresh_70 : decode cX1_refresh 70 = .ok (.istore_n 2, 1) := by decide +kernel
theorem dX1_refresh_71 : decode cX1_refresh 71 = .ok (.aload_n 0, 1) := by decide +kernel
theorem dX1_refresh_72 : decode cX1_refresh 72 = .ok (.getfield 12, 3) := by decide +kernel
theorem dX1_refresh_75 : decode cX1_refresh 75 = .ok (.iload_n 2, 1) := by decide +kernel
theorem dX1_refresh_76 : decode cX1_refresh 76 = .ok (.aload_n 0, 1) := by decide +kernel
theorem dX1_refresh_77 : decode cX1_refresh 77 = .ok (.getfield 35, 3) := by decide +kernel
theorem dX1_refresh_80 : decode cX1_refresh 80 = .ok (.getfield 59, 3) := by decide +kernel
theorem dX1_refresh_83 : decode cX1_refresh 83 = .ok (.iload_n 1, 1) := by decide +kernel
theorem dX1_refresh_84 : decode cX1_refresh 84 = .ok (.iaload, 1) := by decide +kernel
theorem dX1_refresh_85 : decode cX1_refresh 85 = .ok (.aload_n 0, 1) := by decide +kernel
theorem dX1_refresh_86 : decode cX1_refresh 86 = .ok (.getfield 35, 3) := by decide +kernel
theorem dX1_refresh_89 : decode cX1_refresh 89 = .ok (.getfield 71, 3) := by decide +kernel
theorem dX1_refresh_92 : decode cX1_refresh 92 = .ok (.iload_n 1, 1) := by decide +kernel
theorem dX1_refresh_93 : decode cX1_refresh 93 = .ok (.iaload, 1) := by decide +kernel
theorem dX1_refresh_94 : decode cX1_refresh 94 = .ok (.invokevirtual 74, 3) := by decide +kernel
theorem dX1_refresh_97 : decode cX1_refresh 97 = .ok (.iinc 1 1, 3) := by decide +kernel
theorem dX1_refresh_100 : decode cX1_refresh 100 = .ok (.goto (-80), 3) := by decide +kernel
theorem dX1_refresh_103 : decode cX1_refresh 103 = .ok (.aload_n 0, 1) := by decide +kernel
theorem dX1_refresh_104 : decode cX1_refresh 104 = .ok (.getfield 12, 3) := by decide +kernel
theorem dX1_refresh_107 : decode cX1_refresh 107 = .ok (.aload_n 0, 1) := by decide +kernel
theorem dX1_refresh_108 : decode cX1_refresh 108 = .ok (.getfield 35, 3) := by decide +kernel
theorem dX1_refresh_111 : decode cX1_refresh 111 = .ok (.getfield 78, 3) := by decide +kernel
theorem dX1_refresh_114 : decode cX1_refresh 114 = .ok (.invokevirtual 81, 3) := by decide +kernel
theorem dX1_refresh_117 : decode cX1_refresh 117 = .ok (.aload_n 0, 1) := by decide +kernel
theorem dX1_refresh_118 : decode cX1_refresh 118 = .ok (.invokevirtual 85, 3) := by decide +kernel
theorem dX1_refresh_121 : decode cX1_refresh 121 = .ok (.aload_n 0, 1) := by decide +kernel
theorem dX1_refresh_122 : decode cX1_refresh 122 = .ok (.getfield 35, 3) := by decide +kernel
theorem dX1_refresh_125 : decode cX1_refresh 125 = .ok (.iconst 0, 1) := by decide +kernel
theorem dX1_refresh_126 : decode cX1_refresh 126 = .ok (.putfield 39, 3) := by decide +kernel
theorem dX1_refresh_129 : decode cX1_refresh 129 = .ok (.return_, 1) := by decide +kernel
theorem dX1_sort_0 : decode cX1_sort 0 = .ok (.iconst 0, 1) := by decide +kernel
theorem dX1_sort_1 : decode cX1_sort 1 = .ok (.istore_n 1, 1) := by decide +kernel
theorem dX1_sort_2 : decode cX1_sort 2 = .ok (.iload_n 1, 1) := by decide +kernel
theorem dX1_sort_3 : decode cX1_sort 3 = .ok (.aload_n 0, 1) := by decide +kernel
theorem dX1_sort_4 : decode cX1_sort 4 = .ok (.getfield 22, 3) := by decide +kernel
theorem dX1_sort_7 : decode cX1_sort 7 = .ok (.arraylength, 1) := by decide +kernel
theorem dX1_sort_8 : decode cX1_sort 8 = .ok (.if_icmp .ge 16, 3) := by decide +kernel
theorem dX1_sort_11 : decode cX1_sort 11 = .ok (.aload_n 0, 1) := by decide +kernel
theorem dX1_sort_12 : decode cX1_sort 12 = .ok (.getfield 22, 3) := by decide +kernel
theorem dX1_sort_15 : decode cX1_sort 15 = .ok (.iload_n 1, 1) := by decide +kernel
theorem dX1_sort_16 : decode cX1_sort 16 = .ok (.iconst 0, 1) := by decide +kernel
theorem dX1_sort_17 : decode cX1_sort 17 = .ok (.iastore, 1) := by decide +kernel
theorem dX1_sort_18 : decode cX1_sort 18 = .ok (.iinc 1 1, 3) := by decide +kernel
theorem dX1_sort_21 : decode cX1_sort 21 = .ok (.goto (-19), 3) := by decide +kernel
theorem dX1_sort_24 : decode cX1_sort 24 = .ok (.iconst 1, 1) := by decide +kernel
theorem dX1_sort_25 : decode cX1_sort 25 = .ok (.aload_n 0, 1) := by decide +kernel
theorem dX1_sort_26 : decode cX1_sort 26 = .ok (.getfield 35, 3) := by decide +kernel
theorem dX1_sort_29 : decode cX1_sort 29 = .ok (.getfield 78, 3) := by decide +kernel
theorem dX1_sort_32 : decode cX1_sort 32 = .ok (.ishl, 1) := by decide +kernel
theorem dX1_sort_33 : decode cX1_sort 33 = .ok (.istore_n 1, 1) := by decide +kernel
theorem dX1_sort_34 : decode cX1_sort 34 = .ok (.iconst 0, 1) := by decide +kernel
theorem dX1_sort_35 : decode cX1_sort 35 = .ok (.istore_n 2, 1) := by decide +kernel
theorem dX1_sort_36 : decode cX1_sort 36 = .ok (.iload_n 2, 1) := by decide +kernel
theorem dX1_sort_37 : decode cX1_sort 37 = .ok (.iload_n 1, 1) := by decide +kernel
theorem dX1_sort_38 : decode cX1_sort 38 = .ok (.if_icmp .ge 32, 3) := by decide +kernel
theorem dX1_sort_41 : decode cX1_sort 41 = .ok (.aload_n 0, 1) := by decide +kernel
theorem dX1_sort_42 : decode cX1_sort 42 = .ok (.iload_n 2, 1) := by decide +kernel
theorem dX1_sort_43 : decode cX1_sort 43 = .ok (.invokevirtual 88, 3) := by decide +kernel
theorem dX1_sort_46 : decode cX1_sort 46 = .ok (.ifCond .eq 18, 3) := by decide +kernel
theorem dX1_sort_49 : decode cX1_sort 49 = .ok (.aload_n 0, 1) := by decide +kernel
theorem dX1_sort_50 : decode cX1_sort 50 = .ok (.getfield 22, 3) := by decide +kernel
theorem dX1_sort_53 : decode cX1_sort 53 = .ok (.iload_n 2, 1) := by decide +kernel
theorem dX1_sort_54 : decode cX1_sort 54 = .ok (.invokestatic 91, 3) := by decide +kernel
theorem dX1_sort_57 : decode cX1_sort 57 = .ok (.iconst 1, 1) := by decide +kernel
theorem dX1_sort_58 : decode cX1_sort 58 = .ok (.iadd, 1) := by decide +kernel
theorem dX1_sort_59 : decode cX1_sort 59 = .ok (.dup2, 1) := by decide +kernel
theorem dX1_sort_60 : decode cX1_sort 60 = .ok (.iaload, 1) := by decide +kernel
theorem dX1_sort_61 : decode cX1_sort 61 = .ok (.iconst 1, 1) := by decide +kernel
theorem dX1_sort_62 : decode cX1_sort 62 = .ok (.iadd, 1) := by decide +kernel
theorem dX1_sort_63 : decode cX1_sort 63 = .ok (.iastore, 1) := by decide +kernel
theorem dX1_sort_64 : decode cX1_sort 64 = .ok (.iinc 2 1, 3) := by decide +kernel
theorem dX1_sort_67 : decode cX1_sort 67 = .ok (.goto (-31), 3) := by decide +kernel
theorem dX1_sort_70 : decode cX1_sort 70 = .ok (.iconst 1, 1) := by decide +kernel
theorem dX1_sort_71 : decode cX1_sort 71 = .ok (.istore_n 2, 1) := by decide +kernel
theorem dX1_sort_72 : decode cX1_sort 72 = .ok (.iload_n 2, 1) := by decide +kernel
theorem dX1_sort_73 : decode cX1_sort 73 = .ok (.aload_n 0, 1) := by decide +kernel
theorem dX1_sort_74 : decode cX1_sort 74 = .ok (.getfield 22, 3) := by decide +kernel
theorem dX1_sort_77 : decode cX1_sort 77 = .ok (.arraylength, 1) := by decide +kernel
theorem dX1_sort_78 : decode cX1_sort 78 = .ok (.if_icmp .ge 26, 3) := by decide +kernel
theorem dX1_sort_81 : decode cX1_sort 81 = .ok (.aload_n 0, 1) := by decide +kernel
theorem dX1_sort_82 : decode cX1_sort 82 = .ok (.getfield 22, 3) := by decide +kernel
theorem dX1_sort_85 : decode cX1_sort 85 = .ok (.iload_n 2, 1) := by decide +kernel
theorem dX1_sort_86 : decode cX1_sort 86 = .ok (.dup2, 1) := by decide +kernel
theorem dX1_sort_87 : decode cX1_sort 87 = .ok (.iaload, 1) := by decide +kernel
theorem dX1_sort_88 : decode cX1_sort 88 = .ok (.aload_n 0, 1) := by decide +kernel
theorem dX1_sort_89 : decode cX1_sort 89 = .ok (.getfield 22, 3) := by decide +kernel
theorem dX1_sort_92 : decode cX1_sort 92 = .ok (.iload_n 2, 1) := by decide +kernel
theorem dX1_sort_93 : decode cX1_sort 93 = .ok (.iconst 1, 1) := by decide +kernel
theorem dX1_sort_94 : decode cX1_sort 94 = .ok (.isub, 1) := by decide +kernel
theorem dX1_sort_95 : decode cX1_sort 95 = .ok (.iaload, 1) := by decide +kernel
theorem dX1_sort_96 : decode cX1_sort 96 = .ok (.iadd, 1) := by decide +kernel
theorem dX1_sort_97 : decode cX1_sort 97 = .ok (.iastore, 1) := by decide +kernel
theorem dX1_sort_98 : decode cX1_sort 98 = .ok (.iinc 2 1, 3) := by decide +kernel
theorem dX1_sort_101 : decode cX1_sort 101 = .ok (.goto (-29), 3) := by decide +kernel
theorem dX1_sort_104 : decode cX1_sort 104 = .ok (.aload_n 0, 1) := by decide +kernel
theorem dX1_sort_105 : decode cX1_sort 105 = .ok (.aload_n 0, 1) := by decide +kernel
theorem dX1_sort_106 : decode cX1_sort 106 = .ok (.getfield 22, 3) := by decide +kernel
theorem dX1_sort_109 : decode cX1_sort 109 = .ok (.bipush 13, 2) := by decide +kernel
theorem dX1_sort_111 : decode cX1_sort 111 = .ok (.iaload, 1) := by decide +kernel
theorem dX1_sort_112 : decode cX1_sort 112 = .ok (.putfield 97, 3) := by decide +kernel
theorem dX1_sort_115 : decode cX1_sort 115 = .ok (.iconst 0, 1) := by decide +kernel
theorem dX1_sort_116 : decode cX1_sort 116 = .ok (.istore_n 2, 1) := by decide +kernel
theorem dX1_sort_117 : decode cX1_sort 117 = .ok (.iload_n 2, 1) := by decide +kernel
theorem dX1_sort_118 : decode cX1_sort 118 = .ok (.iload_n 1, 1) := by decide +kernel
theorem dX1_sort_119 : decode cX1_sort 119 = .ok (.if_icmp .ge 44, 3) := by decide +kernel
theorem dX1_sort_122 : decode cX1_sort 122 = .ok (.aload_n 0, 1) := by decide +kernel
theorem dX1_sort_123 : decode cX1_sort 123 = .ok (.iload_n 2, 1) := by decide +kernel
theorem dX1_sort_124 : decode cX1_sort 124 = .ok (.invokevirtual 88, 3) := by decide +kernel
theorem dX1_sort_127 : decode cX1_sort 127 = .ok (.ifCond .eq 30, 3) := by decide +kernel
theorem dX1_sort_130 : decode cX1_sort 130 = .ok (.iload_n 2, 1) := by decide +kernel
theorem dX1_sort_131 : decode cX1_sort 131 = .ok (.invokestatic 91, 3) := by decide +kernel
theorem dX1_sort_134 : decode cX1_sort 134 = .ok (.istore_n 3, 1) := by decide +kernel
theorem dX1_sort_135 : decode cX1_sort 135 = .ok (.aload_n 0, 1) := by decide +kernel
theorem dX1_sort_136 : decode cX1_sort 136 = .ok (.getfield 18, 3) := by decide +kernel
theorem dX1_sort_139 : decode cX1_sort 139 = .ok (.aload_n 0, 1) := by decide +kernel
theorem dX1_sort_140 : decode cX1_sort 140 = .ok (.getfield 22, 3) := by decide +kernel
theorem dX1_sort_143 : decode cX1_sort 143 = .ok (.iload_n 3, 1) := by decide +kernel
theorem dX1_sort_144 : decode cX1_sort 144 = .ok (.iaload, 1) := by decide +kernel
theorem dX1_sort_145 : decode cX1_sort 145 = .ok (.iload_n 2, 1) := by decide +kernel
theorem dX1_sort_146 : decode cX1_sort 146 = .ok (.iastore, 1) := by decide +kernel
theorem dX1_sort_147 : decode cX1_sort 147 = .ok (.aload_n 0, 1) := by decide +kernel
theorem dX1_sort_148 : decode cX1_sort 148 = .ok (.getfield 22, 3) := by decide +kernel
theorem dX1_sort_151 : decode cX1_sort 151 = .ok (.iload_n 3, 1) := by decide +kernel
theorem dX1_sort_152 : decode cX1_sort 152 = .ok (.dup2, 1) := by decide +kernel
theorem dX1_sort_153 : decode cX1_sort 153 = .ok (.iaload, 1) := by decide +kernel
theorem dX1_sort_154 : decode cX1_sort 154 = .ok (.iconst 1, 1) := by decide +kernel
theorem dX1_sort_155 : decode cX1_sort 155 = .ok (.iadd, 1) := by decide +kernel
theorem dX1_sort_156 : decode cX1_sort 156 = .ok (.iastore, 1) := by decide +kernel
theorem dX1_sort_157 : decode cX1_sort 157 = .ok (.iinc 2 1, 3) := by decide +kernel
theorem dX1_sort_160 : decode cX1_sort 160 = .ok (.goto (-43), 3) := by decide +kernel
theorem dX1_sort_163 : decode cX1_sort 163 = .ok (.return_, 1) := by decide +kernel
theorem dX1_holds_0 : decode cX1_holds 0 = .ok (.aload_n 0, 1) := by decide +kernel
theorem dX1_holds_1 : decode cX1_holds 1 = .ok (.getfield 12, 3) := by decide +kernel
theorem dX1_holds_4 : decode cX1_holds 4 = .ok (.getfield 100, 3) := by decide +kernel
theorem dX1_holds_7 : decode cX1_holds 7 = .ok (.iload_n 1, 1) := by decide +kernel
theorem dX1_holds_8 : decode cX1_holds 8 = .ok (.iaload, 1) := by decide +kernel
theorem dX1_holds_9 : decode cX1_holds 9 = .ok (.ifCond .ne 21, 3) := by decide +kernel
theorem dX1_holds_12 : decode cX1_holds 12 = .ok (.iload_n 1, 1) := by decide +kernel
theorem dX1_holds_13 : decode cX1_holds 13 = .ok (.invokestatic 91, 3) := by decide +kernel
theorem dX1_holds_16 : decode cX1_holds 16 = .ok (.aload_n 0, 1) := by decide +kernel
theorem dX1_holds_17 : decode cX1_holds 17 = .ok (.getfield 35, 3) := by decide +kernel
theorem dX1_holds_20 : decode cX1_holds 20 = .ok (.getfield 103, 3) := by decide +kernel
theorem dX1_holds_23 : decode cX1_holds 23 = .ok (.if_icmp .gt 7, 3) := by decide +kernel
theorem dX1_holds_26 : decode cX1_holds 26 = .ok (.iconst 1, 1) := by decide +kernel
theorem dX1_holds_27 : decode cX1_holds 27 = .ok (.goto 4, 3) := by decide +kernel
theorem dX1_holds_30 : decode cX1_holds 30 = .ok (.iconst 0, 1) := by decide +kernel
theorem dX1_holds_31 : decode cX1_holds 31 = .ok (.ireturn, 1) := by decide +kernel
theorem dX1_notLetBy_0 : decode cX1_notLetBy 0 = .ok (.aload_n 0, 1) := by decide +kernel
theorem dX1_notLetBy_1 : decode cX1_notLetBy 1 = .ok (.getfield 12, 3) := by decide +kernel
theorem dX1_notLetBy_4 : decode cX1_notLetBy 4 = .ok (.getfield 100, 3) := by decide +kernel
theorem dX1_notLetBy_7 : decode cX1_notLetBy 7 = .ok (.iload_n 1, 1) := by decide +kernel
theorem dX1_notLetBy_8 : decode cX1_notLetBy 8 = .ok (.iaload, 1) := by decide +kernel
theorem dX1_notLetBy_9 : decode cX1_notLetBy 9 = .ok (.ireturn, 1) := by decide +kernel
theorem dX1_inAll_0 : decode cX1_inAll 0 = .ok (.aload_n 0, 1) := by decide +kernel
theorem dX1_inAll_1 : decode cX1_inAll 1 = .ok (.getfield 35, 3) := by decide +kernel
theorem dX1_inAll_4 : decode cX1_inAll 4 = .ok (.invokevirtual 106, 3) := by decide +kernel
theorem dX1_inAll_7 : decode cX1_inAll 7 = .ok (.istore_n 1, 1) := by decide +kernel
theorem dX1_inAll_8 : decode cX1_inAll 8 = .ok (.iconst 0, 1) := by decide +kernel
theorem dX1_inAll_9 : decode cX1_inAll 9 = .ok (.istore_n 2, 1) := by decide +kernel
theorem dX1_inAll_10 : decode cX1_inAll 10 = .ok (.iload_n 2, 1) := by decide +kernel
theorem dX1_inAll_11 : decode cX1_inAll 11 = .ok (.aload_n 0, 1) := by decide +kernel
theorem dX1_inAll_12 : decode cX1_inAll 12 = .ok (.getfield 97, 3) := by decide +kernel
theorem dX1_inAll_15 : decode cX1_inAll 15 = .ok (.if_icmp .ge 18, 3) := by decide +kernel
theorem dX1_inAll_18 : decode cX1_inAll 18 = .ok (.iload_n 1, 1) := by decide +kernel
theorem dX1_inAll_19 : decode cX1_inAll 19 = .ok (.aload_n 0, 1) := by decide +kernel
theorem dX1_inAll_20 : decode cX1_inAll 20 = .ok (.getfield 18, 3) := by decide +kernel
theorem dX1_inAll_23 : decode cX1_inAll 23 = .ok (.iload_n 2, 1) := by decide +kernel
theorem dX1_inAll_24 : decode cX1_inAll 24 = .ok (.iaload, 1) := by decide +kernel
theorem dX1_inAll_25 : decode cX1_inAll 25 = .ok (.iand, 1) := by decide +kernel
theorem dX1_inAll_26 : decode cX1_inAll 26 = .ok (.istore_n 1, 1) := by decide +kernel
theorem dX1_inAll_27 : decode cX1_inAll 27 = .ok (.iinc 2 1, 3) := by decide +kernel
theorem dX1_inAll_30 : decode cX1_inAll 30 = .ok (.goto (-20), 3) := by decide +kernel
theorem dX1_inAll_33 : decode cX1_inAll 33 = .ok (.iload_n 1, 1) := by decide +kernel
theorem dX1_inAll_34 : decode cX1_inAll 34 = .ok (.ireturn, 1) := by decide +kernel
theorem dX1_inNone_0 : decode cX1_inNone 0 = .ok (.iconst 0, 1) := by decide +kernel
theorem dX1_inNone_1 : decode cX1_inNone 1 = .ok (.istore_n 1, 1) := by decide +kernel
theorem dX1_inNone_2 : decode cX1_inNone 2 = .ok (.iconst 0, 1) := by decide +kernel
theorem dX1_inNone_3 : decode cX1_inNone 3 = .ok (.istore_n 2, 1) := by decide +kernel
theorem dX1_inNone_4 : decode cX1_inNone 4 = .ok (.iload_n 2, 1) := by decide +kernel
theorem dX1_inNone_5 : decode cX1_inNone 5 = .ok (.aload_n 0, 1) := by decide +kernel
theorem dX1_inNone_6 : decode cX1_inNone 6 = .ok (.getfield 97, 3) := by decide +kernel
theorem dX1_inNone_9 : decode cX1_inNone 9 = .ok (.if_icmp .ge 18, 3) := by decide +kernel
theorem dX1_inNone_12 : decode cX1_inNone 12 = .ok (.iload_n 1, 1) := by decide +kernel
theorem dX1_inNone_13 : decode cX1_inNone 13 = .ok (.aload_n 0, 1) := by decide +kernel
theorem dX1_inNone_14 : decode cX1_inNone 14 = .ok (.getfield 18, 3) := by decide +kernel
theorem dX1_inNone_17 : decode cX1_inNone 17 = .ok (.iload_n 2, 1) := by decide +kernel
theorem dX1_inNone_18 : decode cX1_inNone 18 = .ok (.iaload, 1) := by decide +kernel
theorem dX1_inNone_19 : decode cX1_inNone 19 = .ok (.ior, 1) := by decide +kernel
theorem dX1_inNone_20 : decode cX1_inNone 20 = .ok (.istore_n 1, 1) := by decide +kernel
theorem dX1_inNone_21 : decode cX1_inNone 21 = .ok (.iinc 2 1, 3) := by decide +kernel
theorem dX1_inNone_24 : decode cX1_inNone 24 = .ok (.goto (-20), 3) := by decide +kernel
theorem dX1_inNone_27 : decode cX1_inNone 27 = .ok (.aload_n 0, 1) := by decide +kernel
theorem dX1_inNone_28 : decode cX1_inNone 28 = .ok (.getfield 35, 3) := by decide +kernel
theorem dX1_inNone_31 : decode cX1_inNone 31 = .ok (.invokevirtual 106, 3) := by decide +kernel
theorem dX1_inNone_34 : decode cX1_inNone 34 = .ok (.iload_n 1, 1) := by decide +kernel
theorem dX1_inNone_35 : decode cX1_inNone 35 = .ok (.iconst (-1), 1) := by decide +kernel
theorem dX1_inNone_36 : decode cX1_inNone 36 = .ok (.ixor, 1) := by decide +kernel
theorem dX1_inNone_37 : decode cX1_inNone 37 = .ok (.iand, 1) := by decide +kernel
theorem dX1_inNone_38 : decode cX1_inNone 38 = .ok (.ireturn, 1) := by decide +kernel
theorem dX1_leastNotLet_0 : decode cX1_leastNotLet 0 = .ok (.iconst 0, 1) := by decide +kernel
theorem dX1_leastNotLet_1 : decode cX1_leastNotLet 1 = .ok (.istore_n 1, 1) := by decide +kernel
theorem dX1_leastNotLet_2 : decode cX1_leastNotLet 2 = .ok (.iconst 1, 1) := by decide +kernel
theorem dX1_leastNotLet_3 : decode cX1_leastNotLet 3 = .ok (.aload_n 0, 1) := by decide +kernel
theorem dX1_leastNotLet_4 : decode cX1_leastNotLet 4 = .ok (.getfield 35, 3) := by decide +kernel
theorem dX1_leastNotLet_7 : decode cX1_leastNotLet 7 = .ok (.getfield 78, 3) := by decide +kernel
theorem dX1_leastNotLet_10 : decode cX1_leastNotLet 10 = .ok (.ishl, 1) := by decide +kernel
theorem dX1_leastNotLet_11 : decode cX1_leastNotLet 11 = .ok (.istore_n 2, 1) := by decide +kernel
theorem dX1_leastNotLet_12 : decode cX1_leastNotLet 12 = .ok (.iconst 1, 1) := by decide +kernel
theorem dX1_leastNotLet_13 : decode cX1_leastNotLet 13 = .ok (.istore_n 3, 1) := by decide +kernel
theorem dX1_leastNotLet_14 : decode cX1_leastNotLet 14 = .ok (.iload_n 3, 1) := by decide +kernel
theorem dX1_leastNotLet_15 : decode cX1_leastNotLet 15 = .ok (.iload_n 2, 1) := by decide +kernel
theorem dX1_leastNotLet_16 : decode cX1_leastNotLet 16 = .ok (.if_icmp .ge 83, 3) := by decide +kernel
theorem dX1_leastNotLet_19 : decode cX1_leastNotLet 19 = .ok (.aload_n 0, 1) := by decide +kernel
theorem dX1_leastNotLet_20 : decode cX1_leastNotLet 20 = .ok (.getfield 12, 3) := by decide +kernel
theorem dX1_leastNotLet_23 : decode cX1_leastNotLet 23 = .ok (.getfield 100, 3) := by decide +kernel
theorem dX1_leastNotLet_26 : decode cX1_leastNotLet 26 = .ok (.iload_n 3, 1) := by decide +kernel
theorem dX1_leastNotLet_27 : decode cX1_leastNotLet 27 = .ok (.iaload, 1) := by decide +kernel
theorem dX1_leastNotLet_28 : decode cX1_leastNotLet 28 = .ok (.aload_n 0, 1) := by decide +kernel
theorem dX1_leastNotLet_29 : decode cX1_leastNotLet 29 = .ok (.getfield 12, 3) := by decide +kernel
theorem dX1_leastNotLet_32 : decode cX1_leastNotLet 32 = .ok (.getfield 100, 3) := by decide +kernel
theorem dX1_leastNotLet_35 : decode cX1_leastNotLet 35 = .ok (.iload_n 1, 1) := by decide +kernel
theorem dX1_leastNotLet_36 : decode cX1_leastNotLet 36 = .ok (.iaload, 1) := by decide +kernel
theorem dX1_leastNotLet_37 : decode cX1_leastNotLet 37 = .ok (.isub, 1) := by decide +kernel
theorem dX1_leastNotLet_38 : decode cX1_leastNotLet 38 = .ok (.istore 4, 2) := by decide +kernel
theorem dX1_leastNotLet_40 : decode cX1_leastNotLet 40 = .ok (.iload 4, 2) := by decide +kernel
theorem dX1_leastNotLet_42 : decode cX1_leastNotLet 42 = .ok (.ifCond .gt 51, 3) := by decide +kernel
theorem dX1_leastNotLet_45 : decode cX1_leastNotLet 45 = .ok (.iload_n 3, 1) := by decide +kernel
theorem dX1_leastNotLet_46 : decode cX1_leastNotLet 46 = .ok (.invokestatic 91, 3) := by decide +kernel
theorem dX1_leastNotLet_49 : decode cX1_leastNotLet 49 = .ok (.aload_n 0, 1) := by decide +kernel
theorem dX1_leastNotLet_50 : decode cX1_leastNotLet 50 = .ok (.getfield 35, 3) := by decide +kernel
theorem dX1_leastNotLet_53 : decode cX1_leastNotLet 53 = .ok (.getfield 103, 3) := by decide +kernel
theorem dX1_leastNotLet_56 : decode cX1_leastNotLet 56 = .ok (.if_icmp .gt 37, 3) := by decide +kernel
theorem dX1_leastNotLet_59 : decode cX1_leastNotLet 59 = .ok (.iload 4, 2) := by decide +kernel
theorem dX1_leastNotLet_61 : decode cX1_leastNotLet 61 = .ok (.ifCond .lt 14, 3) := by decide +kernel
theorem dX1_leastNotLet_64 : decode cX1_leastNotLet 64 = .ok (.iload_n 3, 1) := by decide +kernel
theorem dX1_leastNotLet_65 : decode cX1_leastNotLet 65 = .ok (.invokestatic 91, 3) := by decide +kernel
theorem dX1_leastNotLet_68 : decode cX1_leastNotLet 68 = .ok (.iload_n 1, 1) := by decide +kernel
theorem dX1_leastNotLet_69 : decode cX1_leastNotLet 69 = .ok (.invokestatic 91, 3) := by decide +kernel
theorem dX1_leastNotLet_72 : decode cX1_leastNotLet 72 = .ok (.if_icmp .ge 7, 3) := by decide +kernel
theorem dX1_leastNotLet_75 : decode cX1_leastNotLet 75 = .ok (.iconst 1, 1) := by decide +kernel
theorem dX1_leastNotLet_76 : decode cX1_leastNotLet 76 = .ok (.goto 4, 3) := by decide +kernel
theorem dX1_leastNotLet_79 : decode cX1_leastNotLet 79 = .ok (.iconst 0, 1) := by decide +kernel
theorem dX1_leastNotLet_80 : decode cX1_leastNotLet 80 = .ok (.istore 5, 2) := by decide +kernel
theorem dX1_leastNotLet_82 : decode cX1_leastNotLet 82 = .ok (.iload 5, 2) := by decide +kernel
theorem dX1_leastNotLet_84 : decode cX1_leastNotLet 84 = .ok (.ifCond .eq 7, 3) := by decide +kernel
theorem dX1_leastNotLet_87 : decode cX1_leastNotLet 87 = .ok (.iload_n 3, 1) := by decide +kernel
theorem dX1_leastNotLet_88 : decode cX1_leastNotLet 88 = .ok (.goto 4, 3) := by decide +kernel
theorem dX1_leastNotLet_91 : decode cX1_leastNotLet 91 = .ok (.iload_n 1, 1) := by decide +kernel
theorem dX1_leastNotLet_92 : decode cX1_leastNotLet 92 = .ok (.istore_n 1, 1) := by decide +kernel
theorem dX1_leastNotLet_93 : decode cX1_leastNotLet 93 = .ok (.iinc 3 1, 3) := by decide +kernel
theorem dX1_leastNotLet_96 : decode cX1_leastNotLet 96 = .ok (.goto (-82), 3) := by decide +kernel
theorem dX1_leastNotLet_99 : decode cX1_leastNotLet 99 = .ok (.iload_n 1, 1) := by decide +kernel
theorem dX1_leastNotLet_100 : decode cX1_leastNotLet 100 = .ok (.ireturn, 1) := by decide +kernel
theorem dX1_weigh_0 : decode cX1_weigh 0 = .ok (.aload_n 0, 1) := by decide +kernel
theorem dX1_weigh_1 : decode cX1_weigh 1 = .ok (.getfield 31, 3) := by decide +kernel
theorem dX1_weigh_4 : decode cX1_weigh 4 = .ok (.iconst 0, 1) := by decide +kernel
theorem dX1_weigh_5 : decode cX1_weigh 5 = .ok (.lconst 1, 1) := by decide +kernel
theorem dX1_weigh_6 : decode cX1_weigh 6 = .ok (.lastore, 1) := by decide +kernel
theorem dX1_weigh_7 : decode cX1_weigh 7 = .ok (.iconst 0, 1) := by decide +kernel
theorem dX1_weigh_8 : decode cX1_weigh 8 = .ok (.istore_n 1, 1) := by decide +kernel
theorem dX1_weigh_9 : decode cX1_weigh 9 = .ok (.iload_n 1, 1) := by decide +kernel
theorem dX1_weigh_10 : decode cX1_weigh 10 = .ok (.aload_n 0, 1) := by decide +kernel
theorem dX1_weigh_11 : decode cX1_weigh 11 = .ok (.getfield 35, 3) := by decide +kernel
theorem dX1_weigh_14 : decode cX1_weigh 14 = .ok (.getfield 78, 3) := by decide +kernel
theorem dX1_weigh_17 : decode cX1_weigh 17 = .ok (.if_icmp .ge 73, 3) := by decide +kernel
theorem dX1_weigh_20 : decode cX1_weigh 20 = .ok (.iconst 1, 1) := by decide +kernel
theorem dX1_weigh_21 : decode cX1_weigh 21 = .ok (.iload_n 1, 1) := by decide +kernel
theorem dX1_weigh_22 : decode cX1_weigh 22 = .ok (.ishl, 1) := by decide +kernel
theorem dX1_weigh_23 : decode cX1_weigh 23 = .ok (.istore_n 2, 1) := by decide +kernel
theorem dX1_weigh_24 : decode cX1_weigh 24 = .ok (.iconst 0, 1) := by decide +kernel
theorem dX1_weigh_25 : decode cX1_weigh 25 = .ok (.istore_n 3, 1) := by decide +kernel
theorem dX1_weigh_26 : decode cX1_weigh 26 = .ok (.iload_n 3, 1) := by decide +kernel
theorem dX1_weigh_27 : decode cX1_weigh 27 = .ok (.iload_n 2, 1) := by decide +kernel
theorem dX1_weigh_28 : decode cX1_weigh 28 = .ok (.if_icmp .ge 56, 3) := by decide +kernel
theorem dX1_weigh_31 : decode cX1_weigh 31 = .ok (.aload_n 0, 1) := by decide +kernel
theorem dX1_weigh_32 : decode cX1_weigh 32 = .ok (.getfield 31, 3) := by decide +kernel
theorem dX1_weigh_35 : decode cX1_weigh 35 = .ok (.iload_n 2, 1) := by decide +kernel
theorem dX1_weigh_36 : decode cX1_weigh 36 = .ok (.iload_n 3, 1) := by decide +kernel
theorem dX1_weigh_37 : decode cX1_weigh 37 = .ok (.iadd, 1) := by decide +kernel
theorem dX1_weigh_38 : decode cX1_weigh 38 = .ok (.aload_n 0, 1) := by decide +kernel
theorem dX1_weigh_39 : decode cX1_weigh 39 = .ok (.getfield 31, 3) := by decide +kernel
theorem dX1_weigh_42 : decode cX1_weigh 42 = .ok (.iload_n 3, 1) := by decide +kernel
theorem dX1_weigh_43 : decode cX1_weigh 43 = .ok (.laload, 1) := by decide +kernel
theorem dX1_weigh_44 : decode cX1_weigh 44 = .ok (.aload_n 0, 1) := by decide +kernel
theorem dX1_weigh_45 : decode cX1_weigh 45 = .ok (.getfield 35, 3) := by decide +kernel
theorem dX1_weigh_48 : decode cX1_weigh 48 = .ok (.getfield 110, 3) := by decide +kernel
theorem dX1_weigh_51 : decode cX1_weigh 51 = .ok (.iload_n 1, 1) := by decide +kernel
theorem dX1_weigh_52 : decode cX1_weigh 52 = .ok (.iaload, 1) := by decide +kernel
theorem dX1_weigh_53 : decode cX1_weigh 53 = .ok (.i2l, 1) := by decide +kernel
theorem dX1_weigh_54 : decode cX1_weigh 54 = .ok (.lmul, 1) := by decide +kernel
theorem dX1_weigh_55 : decode cX1_weigh 55 = .ok (.lastore, 1) := by decide +kernel
theorem dX1_weigh_56 : decode cX1_weigh 56 = .ok (.aload_n 0, 1) := by decide +kernel
theorem dX1_weigh_57 : decode cX1_weigh 57 = .ok (.getfield 31, 3) := by decide +kernel
theorem dX1_weigh_60 : decode cX1_weigh 60 = .ok (.iload_n 3, 1) := by decide +kernel
theorem dX1_weigh_61 : decode cX1_weigh 61 = .ok (.dup2, 1) := by decide +kernel
theorem dX1_weigh_62 : decode cX1_weigh 62 = .ok (.laload, 1) := by decide +kernel
theorem dX1_weigh_63 : decode cX1_weigh 63 = .ok (.bipush 10, 2) := by decide +kernel
theorem dX1_weigh_65 : decode cX1_weigh 65 = .ok (.aload_n 0, 1) := by decide +kernel
theorem dX1_weigh_66 : decode cX1_weigh 66 = .ok (.getfield 35, 3) := by decide +kernel
theorem dX1_weigh_69 : decode cX1_weigh 69 = .ok (.getfield 110, 3) := by decide +kernel
theorem dX1_weigh_72 : decode cX1_weigh 72 = .ok (.iload_n 1, 1) := by decide +kernel
theorem dX1_weigh_73 : decode cX1_weigh 73 = .ok (.iaload, 1) := by decide +kernel
theorem dX1_weigh_74 : decode cX1_weigh 74 = .ok (.isub, 1) := by decide +kernel
theorem dX1_weigh_75 : decode cX1_weigh 75 = .ok (.i2l, 1) := by decide +kernel
theorem dX1_weigh_76 : decode cX1_weigh 76 = .ok (.lmul, 1) := by decide +kernel
theorem dX1_weigh_77 : decode cX1_weigh 77 = .ok (.lastore, 1) := by decide +kernel
theorem dX1_weigh_78 : decode cX1_weigh 78 = .ok (.iinc 3 1, 3) := by decide +kernel
theorem dX1_weigh_81 : decode cX1_weigh 81 = .ok (.goto (-55), 3) := by decide +kernel
theorem dX1_weigh_84 : decode cX1_weigh 84 = .ok (.iinc 1 1, 3) := by decide +kernel
theorem dX1_weigh_87 : decode cX1_weigh 87 = .ok (.goto (-78), 3) := by decide +kernel
theorem dX1_weigh_90 : decode cX1_weigh 90 = .ok (.return_, 1) := by decide +kernel
theorem dX1_weightiest_0 : decode cX1_weightiest 0 = .ok (.aload_n 0, 1) := by decide +kernel
theorem dX1_weightiest_1 : decode cX1_weightiest 1 = .ok (.invokevirtual 113, 3) := by decide +kernel
theorem dX1_weightiest_4 : decode cX1_weightiest 4 = .ok (.aload_n 0, 1) := by decide +kernel
theorem dX1_weightiest_5 : decode cX1_weightiest 5 = .ok (.getfield 18, 3) := by decide +kernel
theorem dX1_weightiest_8 : decode cX1_weightiest 8 = .ok (.iconst 0, 1) := by decide +kernel
theorem dX1_weightiest_9 : decode cX1_weightiest 9 = .ok (.iaload, 1) := by decide +kernel
theorem dX1_weightiest_10 : decode cX1_weightiest 10 = .ok (.istore_n 1, 1) := by decide +kernel
theorem dX1_weightiest_11 : decode cX1_weightiest 11 = .ok (.iconst 1, 1) := by decide +kernel
theorem dX1_weightiest_12 : decode cX1_weightiest 12 = .ok (.istore_n 2, 1) := by decide +kernel
theorem dX1_weightiest_13 : decode cX1_weightiest 13 = .ok (.iload_n 2, 1) := by decide +kernel
theorem dX1_weightiest_14 : decode cX1_weightiest 14 = .ok (.aload_n 0, 1) := by decide +kernel
theorem dX1_weightiest_15 : decode cX1_weightiest 15 = .ok (.getfield 97, 3) := by decide +kernel
theorem dX1_weightiest_18 : decode cX1_weightiest 18 = .ok (.if_icmp .ge 37, 3) := by decide +kernel
theorem dX1_weightiest_21 : decode cX1_weightiest 21 = .ok (.aload_n 0, 1) := by decide +kernel
theorem dX1_weightiest_22 : decode cX1_weightiest 22 = .ok (.getfield 31, 3) := by decide +kernel
theorem dX1_weightiest_25 : decode cX1_weightiest 25 = .ok (.aload_n 0, 1) := by decide +kernel
theorem dX1_weightiest_26 : decode cX1_weightiest 26 = .ok (.getfield 18, 3) := by decide +kernel
theorem dX1_weightiest_29 : decode cX1_weightiest 29 = .ok (.iload_n 2, 1) := by decide +kernel
theorem dX1_weightiest_30 : decode cX1_weightiest 30 = .ok (.iaload, 1) := by decide +kernel
theorem dX1_weightiest_31 : decode cX1_weightiest 31 = .ok (.laload, 1) := by decide +kernel
theorem dX1_weightiest_32 : decode cX1_weightiest 32 = .ok (.aload_n 0, 1) := by decide +kernel
theorem dX1_weightiest_33 : decode cX1_weightiest 33 = .ok (.getfield 31, 3) := by decide +kernel
theorem dX1_weightiest_36 : decode cX1_weightiest 36 = .ok (.iload_n 1, 1) := by decide +kernel
theorem dX1_weightiest_37 : decode cX1_weightiest 37 = .ok (.laload, 1) := by decide +kernel
theorem dX1_weightiest_38 : decode cX1_weightiest 38 = .ok (.lcmp, 1) := by decide +kernel
theorem dX1_weightiest_39 : decode cX1_weightiest 39 = .ok (.ifCond .le 10, 3) := by decide +kernel
theorem dX1_weightiest_42 : decode cX1_weightiest 42 = .ok (.aload_n 0, 1) := by decide +kernel
theorem dX1_weightiest_43 : decode cX1_weightiest 43 = .ok (.getfield 18, 3) := by decide +kernel
theorem dX1_weightiest_46 : decode cX1_weightiest 46 = .ok (.iload_n 2, 1) := by decide +kernel
theorem dX1_weightiest_47 : decode cX1_weightiest 47 = .ok (.iaload, 1) := by decide +kernel
theorem dX1_weightiest_48 : decode cX1_weightiest 48 = .ok (.istore_n 1, 1) := by decide +kernel
theorem dX1_weightiest_49 : decode cX1_weightiest 49 = .ok (.iinc 2 1, 3) := by decide +kernel
theorem dX1_weightiest_52 : decode cX1_weightiest 52 = .ok (.goto (-39), 3) := by decide +kernel
theorem dX1_weightiest_55 : decode cX1_weightiest 55 = .ok (.iload_n 1, 1) := by decide +kernel
theorem dX1_weightiest_56 : decode cX1_weightiest 56 = .ok (.ireturn, 1) := by decide +kernel
theorem dX1_weightOfThoseWith_0 : decode cX1_weightOfThoseWith 0 = .ok (.aload_n 0, 1) := by decide +kernel
theorem dX1_weightOfThoseWith_1 : decode cX1_weightOfThoseWith 1 = .ok (.invokevirtual 113, 3) := by decide +kernel
theorem dX1_weightOfThoseWith_4 : decode cX1_weightOfThoseWith 4 = .ok (.lconst 0, 1) := by decide +kernel
theorem dX1_weightOfThoseWith_5 : decode cX1_weightOfThoseWith 5 = .ok (.lstore_n 2, 1) := by decide +kernel
theorem dX1_weightOfThoseWith_6 : decode cX1_weightOfThoseWith 6 = .ok (.iconst 0, 1) := by decide +kernel
theorem dX1_weightOfThoseWith_7 : decode cX1_weightOfThoseWith 7 = .ok (.istore 4, 2) := by decide +kernel
theorem dX1_weightOfThoseWith_9 : decode cX1_weightOfThoseWith 9 = .ok (.iload 4, 2) := by decide +kernel
theorem dX1_weightOfThoseWith_11 : decode cX1_weightOfThoseWith 11 = .ok (.aload_n 0, 1) := by decide +kernel
theorem dX1_weightOfThoseWith_12 : decode cX1_weightOfThoseWith 12 = .ok (.getfield 97, 3) := by decide +kernel
theorem dX1_weightOfThoseWith_15 : decode cX1_weightOfThoseWith 15 = .ok (.if_icmp .ge 37, 3) := by decide +kernel
theorem dX1_weightOfThoseWith_18 : decode cX1_weightOfThoseWith 18 = .ok (.aload_n 0, 1) := by decide +kernel
theorem dX1_weightOfThoseWith_19 : decode cX1_weightOfThoseWith 19 = .ok (.getfield 18, 3) := by decide +kernel
theorem dX1_weightOfThoseWith_22 : decode cX1_weightOfThoseWith 22 = .ok (.iload 4, 2) := by decide +kernel
theorem dX1_weightOfThoseWith_24 : decode cX1_weightOfThoseWith 24 = .ok (.iaload, 1) := by decide +kernel
theorem dX1_weightOfThoseWith_25 : decode cX1_weightOfThoseWith 25 = .ok (.iload_n 1, 1) := by decide +kernel
theorem dX1_weightOfThoseWith_26 : decode cX1_weightOfThoseWith 26 = .ok (.iand, 1) := by decide +kernel
theorem dX1_weightOfThoseWith_27 : decode cX1_weightOfThoseWith 27 = .ok (.iload_n 1, 1) := by decide +kernel
theorem dX1_weightOfThoseWith_28 : decode cX1_weightOfThoseWith 28 = .ok (.if_icmp .ne 18, 3) := by decide +kernel
theorem dX1_weightOfThoseWith_31 : decode cX1_weightOfThoseWith 31 = .ok (.lload_n 2, 1) := by decide +kernel
theorem dX1_weightOfThoseWith_32 : decode cX1_weightOfThoseWith 32 = .ok (.aload_n 0, 1) := by decide +kernel
theorem dX1_weightOfThoseWith_33 : decode cX1_weightOfThoseWith 33 = .ok (.getfield 31, 3) := by decide +kernel
theorem dX1_weightOfThoseWith_36 : decode cX1_weightOfThoseWith 36 = .ok (.aload_n 0, 1) := by decide +kernel
theorem dX1_weightOfThoseWith_37 : decode cX1_weightOfThoseWith 37 = .ok (.getfield 18, 3) := by decide +kernel
theorem dX1_weightOfThoseWith_40 : decode cX1_weightOfThoseWith 40 = .ok (.iload 4, 2) := by decide +kernel
theorem dX1_weightOfThoseWith_42 : decode cX1_weightOfThoseWith 42 = .ok (.iaload, 1) := by decide +kernel
theorem dX1_weightOfThoseWith_43 : decode cX1_weightOfThoseWith 43 = .ok (.laload, 1) := by decide +kernel
theorem dX1_weightOfThoseWith_44 : decode cX1_weightOfThoseWith 44 = .ok (.ladd, 1) := by decide +kernel
theorem dX1_weightOfThoseWith_45 : decode cX1_weightOfThoseWith 45 = .ok (.lstore_n 2, 1) := by decide +kernel
theorem dX1_weightOfThoseWith_46 : decode cX1_weightOfThoseWith 46 = .ok (.iinc 4 1, 3) := by decide +kernel
theorem dX1_weightOfThoseWith_49 : decode cX1_weightOfThoseWith 49 = .ok (.goto (-40), 3) := by decide +kernel
theorem dX1_weightOfThoseWith_52 : decode cX1_weightOfThoseWith 52 = .ok (.lload_n 2, 1) := by decide +kernel
theorem dX1_weightOfThoseWith_53 : decode cX1_weightOfThoseWith 53 = .ok (.lreturn, 1) := by decide +kernel
theorem dX1_priceEach_0 : decode cX1_priceEach 0 = .ok (.aload_n 0, 1) := by decide +kernel
theorem dX1_priceEach_1 : decode cX1_priceEach 1 = .ok (.getfield 28, 3) := by decide +kernel
theorem dX1_priceEach_4 : decode cX1_priceEach 4 = .ok (.iconst 0, 1) := by decide +kernel
theorem dX1_priceEach_5 : decode cX1_priceEach 5 = .ok (.iconst 0, 1) := by decide +kernel
theorem dX1_priceEach_6 : decode cX1_priceEach 6 = .ok (.iastore, 1) := by decide +kernel
theorem dX1_priceEach_7 : decode cX1_priceEach 7 = .ok (.iconst 0, 1) := by decide +kernel
theorem dX1_priceEach_8 : decode cX1_priceEach 8 = .ok (.istore_n 1, 1) := by decide +kernel
theorem dX1_priceEach_9 : decode cX1_priceEach 9 = .ok (.iload_n 1, 1) := by decide +kernel
theorem dX1_priceEach_10 : decode cX1_priceEach 10 = .ok (.aload_n 0, 1) := by decide +kernel
theorem dX1_priceEach_11 : decode cX1_priceEach 11 = .ok (.getfield 35, 3) := by decide +kernel
theorem dX1_priceEach_14 : decode cX1_priceEach 14 = .ok (.getfield 78, 3) := by decide +kernel
theorem dX1_priceEach_17 : decode cX1_priceEach 17 = .ok (.if_icmp .ge 50, 3) := by decide +kernel
theorem dX1_priceEach_20 : decode cX1_priceEach 20 = .ok (.iconst 1, 1) := by decide +kernel
theorem dX1_priceEach_21 : decode cX1_priceEach 21 = .ok (.iload_n 1, 1) := by decide +kernel
theorem dX1_priceEach_22 : decode cX1_priceEach 22 = .ok (.ishl, 1) := by decide +kernel
theorem dX1_priceEach_23 : decode cX1_priceEach 23 = .ok (.istore_n 2, 1) := by decide +kernel
theorem dX1_priceEach_24 : decode cX1_priceEach 24 = .ok (.iconst 0, 1) := by decide +kernel
theorem dX1_priceEach_25 : decode cX1_priceEach 25 = .ok (.istore_n 3, 1) := by decide +kernel
theorem dX1_priceEach_26 : decode cX1_priceEach 26 = .ok (.iload_n 3, 1) := by decide +kernel
theorem dX1_priceEach_27 : decode cX1_priceEach 27 = .ok (.iload_n 2, 1) := by decide +kernel
theorem dX1_priceEach_28 : decode cX1_priceEach 28 = .ok (.if_icmp .ge 33, 3) := by decide +kernel
theorem dX1_priceEach_31 : decode cX1_priceEach 31 = .ok (.aload_n 0, 1) := by decide +kernel
theorem dX1_priceEach_32 : decode cX1_priceEach 32 = .ok (.getfield 28, 3) := by decide +kernel
theorem dX1_priceEach_35 : decode cX1_priceEach 35 = .ok (.iload_n 2, 1) := by decide +kernel
theorem dX1_priceEach_36 : decode cX1_priceEach 36 = .ok (.iload_n 3, 1) := by decide +kernel
theorem dX1_priceEach_37 : decode cX1_priceEach 37 = .ok (.iadd, 1) := by decide +kernel
theorem dX1_priceEach_38 : decode cX1_priceEach 38 = .ok (.aload_n 0, 1) := by decide +kernel
theorem dX1_priceEach_39 : decode cX1_priceEach 39 = .ok (.getfield 28, 3) := by decide +kernel
theorem dX1_priceEach_42 : decode cX1_priceEach 42 = .ok (.iload_n 3, 1) := by decide +kernel
theorem dX1_priceEach_43 : decode cX1_priceEach 43 = .ok (.iaload, 1) := by decide +kernel
theorem dX1_priceEach_44 : decode cX1_priceEach 44 = .ok (.aload_n 0, 1) := by decide +kernel
theorem dX1_priceEach_45 : decode cX1_priceEach 45 = .ok (.getfield 35, 3) := by decide +kernel
theorem dX1_priceEach_48 : decode cX1_priceEach 48 = .ok (.getfield 116, 3) := by decide +kernel
theorem dX1_priceEach_51 : decode cX1_priceEach 51 = .ok (.iload_n 1, 1) := by decide +kernel
theorem dX1_priceEach_52 : decode cX1_priceEach 52 = .ok (.iaload, 1) := by decide +kernel
theorem dX1_priceEach_53 : decode cX1_priceEach 53 = .ok (.iadd, 1) := by decide +kernel
theorem dX1_priceEach_54 : decode cX1_priceEach 54 = .ok (.iastore, 1) := by decide +kernel
theorem dX1_priceEach_55 : decode cX1_priceEach 55 = .ok (.iinc 3 1, 3) := by decide +kernel
theorem dX1_priceEach_58 : decode cX1_priceEach 58 = .ok (.goto (-32), 3) := by decide +kernel
theorem dX1_priceEach_61 : decode cX1_priceEach 61 = .ok (.iinc 1 1, 3) := by decide +kernel
theorem dX1_priceEach_64 : decode cX1_priceEach 64 = .ok (.goto (-55), 3) := by decide +kernel
theorem dX1_priceEach_67 : decode cX1_priceEach 67 = .ok (.return_, 1) := by decide +kernel
theorem dX1_markEach_0 : decode cX1_markEach 0 = .ok (.iconst 1, 1) := by decide +kernel
theorem dX1_markEach_1 : decode cX1_markEach 1 = .ok (.aload_n 0, 1) := by decide +kernel
theorem dX1_markEach_2 : decode cX1_markEach 2 = .ok (.getfield 35, 3) := by decide +kernel
theorem dX1_markEach_5 : decode cX1_markEach 5 = .ok (.getfield 78, 3) := by decide +kernel
theorem dX1_markEach_8 : decode cX1_markEach 8 = .ok (.ishl, 1) := by decide +kernel
theorem dX1_markEach_9 : decode cX1_markEach 9 = .ok (.istore_n 1, 1) := by decide +kernel
theorem dX1_markEach_10 : decode cX1_markEach 10 = .ok (.iconst 0, 1) := by decide +kernel
theorem dX1_markEach_11 : decode cX1_markEach 11 = .ok (.istore_n 2, 1) := by decide +kernel
theorem dX1_markEach_12 : decode cX1_markEach 12 = .ok (.iload_n 2, 1) := by decide +kernel
theorem dX1_markEach_13 : decode cX1_markEach 13 = .ok (.iload_n 1, 1) := by decide +kernel
theorem dX1_markEach_14 : decode cX1_markEach 14 = .ok (.if_icmp .ge 16, 3) := by decide +kernel
theorem dX1_markEach_17 : decode cX1_markEach 17 = .ok (.aload_n 0, 1) := by decide +kernel
theorem dX1_markEach_18 : decode cX1_markEach 18 = .ok (.getfield 25, 3) := by decide +kernel
theorem dX1_markEach_21 : decode cX1_markEach 21 = .ok (.iload_n 2, 1) := by decide +kernel
theorem dX1_markEach_22 : decode cX1_markEach 22 = .ok (.iconst 0, 1) := by decide +kernel
theorem dX1_markEach_23 : decode cX1_markEach 23 = .ok (.iastore, 1) := by decide +kernel
theorem dX1_markEach_24 : decode cX1_markEach 24 = .ok (.iinc 2 1, 3) := by decide +kernel
theorem dX1_markEach_27 : decode cX1_markEach 27 = .ok (.goto (-15), 3) := by decide +kernel
theorem dX1_markEach_30 : decode cX1_markEach 30 = .ok (.iconst 0, 1) := by decide +kernel
theorem dX1_markEach_31 : decode cX1_markEach 31 = .ok (.istore_n 2, 1) := by decide +kernel
theorem dX1_markEach_32 : decode cX1_markEach 32 = .ok (.iload_n 2, 1) := by decide +kernel
theorem dX1_markEach_33 : decode cX1_markEach 33 = .ok (.aload_n 0, 1) := by decide +kernel
theorem dX1_markEach_34 : decode cX1_markEach 34 = .ok (.getfield 97, 3) := by decide +kernel
theorem dX1_markEach_37 : decode cX1_markEach 37 = .ok (.if_icmp .ge 21, 3) := by decide +kernel
theorem dX1_markEach_40 : decode cX1_markEach 40 = .ok (.aload_n 0, 1) := by decide +kernel
theorem dX1_markEach_41 : decode cX1_markEach 41 = .ok (.getfield 25, 3) := by decide +kernel
theorem dX1_markEach_44 : decode cX1_markEach 44 = .ok (.aload_n 0, 1) := by decide +kernel
theorem dX1_markEach_45 : decode cX1_markEach 45 = .ok (.getfield 18, 3) := by decide +kernel
theorem dX1_markEach_48 : decode cX1_markEach 48 = .ok (.iload_n 2, 1) := by decide +kernel
theorem dX1_markEach_49 : decode cX1_markEach 49 = .ok (.iaload, 1) := by decide +kernel
theorem dX1_markEach_50 : decode cX1_markEach 50 = .ok (.iconst 1, 1) := by decide +kernel
theorem dX1_markEach_51 : decode cX1_markEach 51 = .ok (.iastore, 1) := by decide +kernel
theorem dX1_markEach_52 : decode cX1_markEach 52 = .ok (.iinc 2 1, 3) := by decide +kernel
theorem dX1_markEach_55 : decode cX1_markEach 55 = .ok (.goto (-23), 3) := by decide +kernel
theorem dX1_markEach_58 : decode cX1_markEach 58 = .ok (.return_, 1) := by decide +kernel
theorem dX1_countThoseIn_0 : decode cX1_countThoseIn 0 = .ok (.aload_n 0, 1) := by decide +kernel
theorem dX1_countThoseIn_1 : decode cX1_countThoseIn 1 = .ok (.invokevirtual 117, 3) := by decide +kernel
theorem dX1_countThoseIn_4 : decode cX1_countThoseIn 4 = .ok (.iconst 1, 1) := by decide +kernel
theorem dX1_countThoseIn_5 : decode cX1_countThoseIn 5 = .ok (.aload_n 0, 1) := by decide +kernel
theorem dX1_countThoseIn_6 : decode cX1_countThoseIn 6 = .ok (.getfield 35, 3) := by decide +kernel
theorem dX1_countThoseIn_9 : decode cX1_countThoseIn 9 = .ok (.getfield 78, 3) := by decide +kernel
theorem dX1_countThoseIn_12 : decode cX1_countThoseIn 12 = .ok (.ishl, 1) := by decide +kernel
theorem dX1_countThoseIn_13 : decode cX1_countThoseIn 13 = .ok (.istore_n 1, 1) := by decide +kernel
theorem dX1_countThoseIn_14 : decode cX1_countThoseIn 14 = .ok (.iconst 1, 1) := by decide +kernel
theorem dX1_countThoseIn_15 : decode cX1_countThoseIn 15 = .ok (.istore_n 2, 1) := by decide +kernel
theorem dX1_countThoseIn_16 : decode cX1_countThoseIn 16 = .ok (.iload_n 2, 1) := by decide +kernel
theorem dX1_countThoseIn_17 : decode cX1_countThoseIn 17 = .ok (.iload_n 1, 1) := by decide +kernel
theorem dX1_countThoseIn_18 : decode cX1_countThoseIn 18 = .ok (.if_icmp .ge 62, 3) := by decide +kernel
theorem dX1_countThoseIn_21 : decode cX1_countThoseIn 21 = .ok (.iconst 0, 1) := by decide +kernel
theorem dX1_countThoseIn_22 : decode cX1_countThoseIn 22 = .ok (.istore_n 3, 1) := by decide +kernel
theorem dX1_countThoseIn_23 : decode cX1_countThoseIn 23 = .ok (.iload_n 3, 1) := by decide +kernel
theorem dX1_countThoseIn_24 : decode cX1_countThoseIn 24 = .ok (.iload_n 1, 1) := by decide +kernel
theorem dX1_countThoseIn_25 : decode cX1_countThoseIn 25 = .ok (.if_icmp .ge 48, 3) := by decide +kernel
theorem dX1_countThoseIn_28 : decode cX1_countThoseIn 28 = .ok (.iload_n 3, 1) := by decide +kernel
theorem dX1_countThoseIn_29 : decode cX1_countThoseIn 29 = .ok (.istore 4, 2) := by decide +kernel
theorem dX1_countThoseIn_31 : decode cX1_countThoseIn 31 = .ok (.iload 4, 2) := by decide +kernel
theorem dX1_countThoseIn_33 : decode cX1_countThoseIn 33 = .ok (.iload_n 3, 1) := by decide +kernel
theorem dX1_countThoseIn_34 : decode cX1_countThoseIn 34 = .ok (.iload_n 2, 1) := by decide +kernel
theorem dX1_countThoseIn_35 : decode cX1_countThoseIn 35 = .ok (.iadd, 1) := by decide +kernel
theorem dX1_countThoseIn_36 : decode cX1_countThoseIn 36 = .ok (.if_icmp .ge 28, 3) := by decide +kernel
theorem dX1_countThoseIn_39 : decode cX1_countThoseIn 39 = .ok (.aload_n 0, 1) := by decide +kernel
theorem dX1_countThoseIn_40 : decode cX1_countThoseIn 40 = .ok (.getfield 25, 3) := by decide +kernel
theorem dX1_countThoseIn_43 : decode cX1_countThoseIn 43 = .ok (.iload 4, 2) := by decide +kernel
theorem dX1_countThoseIn_45 : decode cX1_countThoseIn 45 = .ok (.iload_n 2, 1) := by decide +kernel
theorem dX1_countThoseIn_46 : decode cX1_countThoseIn 46 = .ok (.iadd, 1) := by decide +kernel
theorem dX1_countThoseIn_47 : decode cX1_countThoseIn 47 = .ok (.dup2, 1) := by decide +kernel
theorem dX1_countThoseIn_48 : decode cX1_countThoseIn 48 = .ok (.iaload, 1) := by decide +kernel
theorem dX1_countThoseIn_49 : decode cX1_countThoseIn 49 = .ok (.aload_n 0, 1) := by decide +kernel
theorem dX1_countThoseIn_50 : decode cX1_countThoseIn 50 = .ok (.getfield 25, 3) := by decide +kernel
theorem dX1_countThoseIn_53 : decode cX1_countThoseIn 53 = .ok (.iload 4, 2) := by decide +kernel
theorem dX1_countThoseIn_55 : decode cX1_countThoseIn 55 = .ok (.iaload, 1) := by decide +kernel
theorem dX1_countThoseIn_56 : decode cX1_countThoseIn 56 = .ok (.iadd, 1) := by decide +kernel
theorem dX1_countThoseIn_57 : decode cX1_countThoseIn 57 = .ok (.iastore, 1) := by decide +kernel
theorem dX1_countThoseIn_58 : decode cX1_countThoseIn 58 = .ok (.iinc 4 1, 3) := by decide +kernel
theorem dX1_countThoseIn_61 : decode cX1_countThoseIn 61 = .ok (.goto (-30), 3) := by decide +kernel
theorem dX1_countThoseIn_64 : decode cX1_countThoseIn 64 = .ok (.iload_n 3, 1) := by decide +kernel
theorem dX1_countThoseIn_65 : decode cX1_countThoseIn 65 = .ok (.iconst 2, 1) := by decide +kernel
theorem dX1_countThoseIn_66 : decode cX1_countThoseIn 66 = .ok (.iload_n 2, 1) := by decide +kernel
theorem dX1_countThoseIn_67 : decode cX1_countThoseIn 67 = .ok (.imul, 1) := by decide +kernel
theorem dX1_countThoseIn_68 : decode cX1_countThoseIn 68 = .ok (.iadd, 1) := by decide +kernel
theorem dX1_countThoseIn_69 : decode cX1_countThoseIn 69 = .ok (.istore_n 3, 1) := by decide +kernel
theorem dX1_countThoseIn_70 : decode cX1_countThoseIn 70 = .ok (.goto (-47), 3) := by decide +kernel
theorem dX1_countThoseIn_73 : decode cX1_countThoseIn 73 = .ok (.iload_n 2, 1) := by decide +kernel
theorem dX1_countThoseIn_74 : decode cX1_countThoseIn 74 = .ok (.iconst 2, 1) := by decide +kernel
theorem dX1_countThoseIn_75 : decode cX1_countThoseIn 75 = .ok (.imul, 1) := by decide +kernel
theorem dX1_countThoseIn_76 : decode cX1_countThoseIn 76 = .ok (.istore_n 2, 1) := by decide +kernel
theorem dX1_countThoseIn_77 : decode cX1_countThoseIn 77 = .ok (.goto (-61), 3) := by decide +kernel
theorem dX1_countThoseIn_80 : decode cX1_countThoseIn 80 = .ok (.return_, 1) := by decide +kernel
theorem dX1_countThoseWith_0 : decode cX1_countThoseWith 0 = .ok (.aload_n 0, 1) := by decide +kernel
theorem dX1_countThoseWith_1 : decode cX1_countThoseWith 1 = .ok (.invokevirtual 117, 3) := by decide +kernel
theorem dX1_countThoseWith_4 : decode cX1_countThoseWith 4 = .ok (.iconst 1, 1) := by decide +kernel
theorem dX1_countThoseWith_5 : decode cX1_countThoseWith 5 = .ok (.aload_n 0, 1) := by decide +kernel
theorem dX1_countThoseWith_6 : decode cX1_countThoseWith 6 = .ok (.getfield 35, 3) := by decide +kernel
theorem dX1_countThoseWith_9 : decode cX1_countThoseWith 9 = .ok (.getfield 78, 3) := by decide +kernel
theorem dX1_countThoseWith_12 : decode cX1_countThoseWith 12 = .ok (.ishl, 1) := by decide +kernel
theorem dX1_countThoseWith_13 : decode cX1_countThoseWith 13 = .ok (.istore_n 1, 1) := by decide +kernel
theorem dX1_countThoseWith_14 : decode cX1_countThoseWith 14 = .ok (.iconst 1, 1) := by decide +kernel
theorem dX1_countThoseWith_15 : decode cX1_countThoseWith 15 = .ok (.istore_n 2, 1) := by decide +kernel
theorem dX1_countThoseWith_16 : decode cX1_countThoseWith 16 = .ok (.iload_n 2, 1) := by decide +kernel
theorem dX1_countThoseWith_17 : decode cX1_countThoseWith 17 = .ok (.iload_n 1, 1) := by decide +kernel
theorem dX1_countThoseWith_18 : decode cX1_countThoseWith 18 = .ok (.if_icmp .ge 62, 3) := by decide +kernel
theorem dX1_countThoseWith_21 : decode cX1_countThoseWith 21 = .ok (.iconst 0, 1) := by decide +kernel
theorem dX1_countThoseWith_22 : decode cX1_countThoseWith 22 = .ok (.istore_n 3, 1) := by decide +kernel
theorem dX1_countThoseWith_23 : decode cX1_countThoseWith 23 = .ok (.iload_n 3, 1) := by decide +kernel
theorem dX1_countThoseWith_24 : decode cX1_countThoseWith 24 = .ok (.iload_n 1, 1) := by decide +kernel
theorem dX1_countThoseWith_25 : decode cX1_countThoseWith 25 = .ok (.if_icmp .ge 48, 3) := by decide +kernel
theorem dX1_countThoseWith_28 : decode cX1_countThoseWith 28 = .ok (.iload_n 3, 1) := by decide +kernel
theorem dX1_countThoseWith_29 : decode cX1_countThoseWith 29 = .ok (.istore 4, 2) := by decide +kernel
theorem dX1_countThoseWith_31 : decode cX1_countThoseWith 31 = .ok (.iload 4, 2) := by decide +kernel
theorem dX1_countThoseWith_33 : decode cX1_countThoseWith 33 = .ok (.iload_n 3, 1) := by decide +kernel
theorem dX1_countThoseWith_34 : decode cX1_countThoseWith 34 = .ok (.iload_n 2, 1) := by decide +kernel
theorem dX1_countThoseWith_35 : decode cX1_countThoseWith 35 = .ok (.iadd, 1) := by decide +kernel
theorem dX1_countThoseWith_36 : decode cX1_countThoseWith 36 = .ok (.if_icmp .ge 28, 3) := by decide +kernel
theorem dX1_countThoseWith_39 : decode cX1_countThoseWith 39 = .ok (.aload_n 0, 1) := by decide +kernel
theorem dX1_countThoseWith_40 : decode cX1_countThoseWith 40 = .ok (.getfield 25, 3) := by decide +kernel
theorem dX1_countThoseWith_43 : decode cX1_countThoseWith 43 = .ok (.iload 4, 2) := by decide +kernel
theorem dX1_countThoseWith_45 : decode cX1_countThoseWith 45 = .ok (.dup2, 1) := by decide +kernel
theorem dX1_countThoseWith_46 : decode cX1_countThoseWith 46 = .ok (.iaload, 1) := by decide +kernel
theorem dX1_countThoseWith_47 : decode cX1_countThoseWith 47 = .ok (.aload_n 0, 1) := by decide +kernel
theorem dX1_countThoseWith_48 : decode cX1_countThoseWith 48 = .ok (.getfield 25, 3) := by decide +kernel
theorem dX1_countThoseWith_51 : decode cX1_countThoseWith 51 = .ok (.iload 4, 2) := by decide +kernel
theorem dX1_countThoseWith_53 : decode cX1_countThoseWith 53 = .ok (.iload_n 2, 1) := by decide +kernel
theorem dX1_countThoseWith_54 : decode cX1_countThoseWith 54 = .ok (.iadd, 1) := by decide +kernel
theorem dX1_countThoseWith_55 : decode cX1_countThoseWith 55 = .ok (.iaload, 1) := by decide +kernel
theorem dX1_countThoseWith_56 : decode cX1_countThoseWith 56 = .ok (.iadd, 1) := by decide +kernel
theorem dX1_countThoseWith_57 : decode cX1_countThoseWith 57 = .ok (.iastore, 1) := by decide +kernel
theorem dX1_countThoseWith_58 : decode cX1_countThoseWith 58 = .ok (.iinc 4 1, 3) := by decide +kernel
theorem dX1_countThoseWith_61 : decode cX1_countThoseWith 61 = .ok (.goto (-30), 3) := by decide +kernel
theorem dX1_countThoseWith_64 : decode cX1_countThoseWith 64 = .ok (.iload_n 3, 1) := by decide +kernel
theorem dX1_countThoseWith_65 : decode cX1_countThoseWith 65 = .ok (.iconst 2, 1) := by decide +kernel
theorem dX1_countThoseWith_66 : decode cX1_countThoseWith 66 = .ok (.iload_n 2, 1) := by decide +kernel
theorem dX1_countThoseWith_67 : decode cX1_countThoseWith 67 = .ok (.imul, 1) := by decide +kernel
theorem dX1_countThoseWith_68 : decode cX1_countThoseWith 68 = .ok (.iadd, 1) := by decide +kernel
theorem dX1_countThoseWith_69 : decode cX1_countThoseWith 69 = .ok (.istore_n 3, 1) := by decide +kernel
theorem dX1_countThoseWith_70 : decode cX1_countThoseWith 70 = .ok (.goto (-47), 3) := by decide +kernel
theorem dX1_countThoseWith_73 : decode cX1_countThoseWith 73 = .ok (.iload_n 2, 1) := by decide +kernel
theorem dX1_countThoseWith_74 : decode cX1_countThoseWith 74 = .ok (.iconst 2, 1) := by decide +kernel
theorem dX1_countThoseWith_75 : decode cX1_countThoseWith 75 = .ok (.imul, 1) := by decide +kernel
theorem dX1_countThoseWith_76 : decode cX1_countThoseWith 76 = .ok (.istore_n 2, 1) := by decide +kernel
theorem dX1_countThoseWith_77 : decode cX1_countThoseWith 77 = .ok (.goto (-61), 3) := by decide +kernel
theorem dX1_countThoseWith_80 : decode cX1_countThoseWith 80 = .ok (.return_, 1) := by decide +kernel
theorem dX1_bestToMend_0 : decode cX1_bestToMend 0 = .ok (.aload_n 0, 1) := by decide +kernel
theorem dX1_bestToMend_1 : decode cX1_bestToMend 1 = .ok (.invokevirtual 120, 3) := by decide +kernel
theorem dX1_bestToMend_4 : decode cX1_bestToMend 4 = .ok (.aload_n 0, 1) := by decide +kernel
theorem dX1_bestToMend_5 : decode cX1_bestToMend 5 = .ok (.invokevirtual 123, 3) := by decide +kernel
theorem dX1_bestToMend_8 : decode cX1_bestToMend 8 = .ok (.iconst 0, 1) := by decide +kernel
theorem dX1_bestToMend_9 : decode cX1_bestToMend 9 = .ok (.istore_n 2, 1) := by decide +kernel
theorem dX1_bestToMend_10 : decode cX1_bestToMend 10 = .ok (.iconst 1, 1) := by decide +kernel
theorem dX1_bestToMend_11 : decode cX1_bestToMend 11 = .ok (.aload_n 0, 1) := by decide +kernel
theorem dX1_bestToMend_12 : decode cX1_bestToMend 12 = .ok (.getfield 35, 3) := by decide +kernel
theorem dX1_bestToMend_15 : decode cX1_bestToMend 15 = .ok (.getfield 78, 3) := by decide +kernel
theorem dX1_bestToMend_18 : decode cX1_bestToMend 18 = .ok (.ishl, 1) := by decide +kernel
theorem dX1_bestToMend_19 : decode cX1_bestToMend 19 = .ok (.istore_n 3, 1) := by decide +kernel
theorem dX1_bestToMend_20 : decode cX1_bestToMend 20 = .ok (.iconst 1, 1) := by decide +kernel
theorem dX1_bestToMend_21 : decode cX1_bestToMend 21 = .ok (.istore 4, 2) := by decide +kernel
theorem dX1_bestToMend_23 : decode cX1_bestToMend 23 = .ok (.iload 4, 2) := by decide +kernel
theorem dX1_bestToMend_25 : decode cX1_bestToMend 25 = .ok (.iload_n 3, 1) := by decide +kernel
theorem dX1_bestToMend_26 : decode cX1_bestToMend 26 = .ok (.if_icmp .ge 83, 3) := by decide +kernel
theorem dX1_bestToMend_29 : decode cX1_bestToMend 29 = .ok (.aload_n 0, 1) := by decide +kernel
theorem dX1_bestToMend_30 : decode cX1_bestToMend 30 = .ok (.getfield 25, 3) := by decide +kernel
theorem dX1_bestToMend_33 : decode cX1_bestToMend 33 = .ok (.iload 4, 2) := by decide +kernel
theorem dX1_bestToMend_35 : decode cX1_bestToMend 35 = .ok (.iaload, 1) := by decide +kernel
theorem dX1_bestToMend_36 : decode cX1_bestToMend 36 = .ok (.aload_n 0, 1) := by decide +kernel
theorem dX1_bestToMend_37 : decode cX1_bestToMend 37 = .ok (.getfield 25, 3) := by decide +kernel
theorem dX1_bestToMend_40 : decode cX1_bestToMend 40 = .ok (.iload_n 2, 1) := by decide +kernel
theorem dX1_bestToMend_41 : decode cX1_bestToMend 41 = .ok (.iaload, 1) := by decide +kernel
theorem dX1_bestToMend_42 : decode cX1_bestToMend 42 = .ok (.if_icmp .ne 23, 3) := by decide +kernel
theorem dX1_bestToMend_45 : decode cX1_bestToMend 45 = .ok (.aload_n 0, 1) := by decide +kernel
theorem dX1_bestToMend_46 : decode cX1_bestToMend 46 = .ok (.getfield 28, 3) := by decide +kernel
theorem dX1_bestToMend_49 : decode cX1_bestToMend 49 = .ok (.iload 4, 2) := by decide +kernel
theorem dX1_bestToMend_51 : decode cX1_bestToMend 51 = .ok (.iaload, 1) := by decide +kernel
theorem dX1_bestToMend_52 : decode cX1_bestToMend 52 = .ok (.aload_n 0, 1) := by decide +kernel
theorem dX1_bestToMend_53 : decode cX1_bestToMend 53 = .ok (.getfield 28, 3) := by decide +kernel
theorem dX1_bestToMend_56 : decode cX1_bestToMend 56 = .ok (.iload_n 2, 1) := by decide +kernel
theorem dX1_bestToMend_57 : decode cX1_bestToMend 57 = .ok (.iaload, 1) := by decide +kernel
theorem dX1_bestToMend_58 : decode cX1_bestToMend 58 = .ok (.if_icmp .ge 7, 3) := by decide +kernel
theorem dX1_bestToMend_61 : decode cX1_bestToMend 61 = .ok (.iconst 1, 1) := by decide +kernel
theorem dX1_bestToMend_62 : decode cX1_bestToMend 62 = .ok (.goto 4, 3) := by decide +kernel
theorem dX1_bestToMend_65 : decode cX1_bestToMend 65 = .ok (.iconst 0, 1) := by decide +kernel
theorem dX1_bestToMend_66 : decode cX1_bestToMend 66 = .ok (.istore 5, 2) := by decide +kernel
theorem dX1_bestToMend_68 : decode cX1_bestToMend 68 = .ok (.aload_n 0, 1) := by decide +kernel
theorem dX1_bestToMend_69 : decode cX1_bestToMend 69 = .ok (.getfield 28, 3) := by decide +kernel
theorem dX1_bestToMend_72 : decode cX1_bestToMend 72 = .ok (.iload 4, 2) := by decide +kernel
theorem dX1_bestToMend_74 : decode cX1_bestToMend 74 = .ok (.iaload, 1) := by decide +kernel
theorem dX1_bestToMend_75 : decode cX1_bestToMend 75 = .ok (.iload_n 1, 1) := by decide +kernel
theorem dX1_bestToMend_76 : decode cX1_bestToMend 76 = .ok (.if_icmp .gt 27, 3) := by decide +kernel
theorem dX1_bestToMend_79 : decode cX1_bestToMend 79 = .ok (.aload_n 0, 1) := by decide +kernel
theorem dX1_bestToMend_80 : decode cX1_bestToMend 80 = .ok (.getfield 25, 3) := by decide +kernel
theorem dX1_bestToMend_83 : decode cX1_bestToMend 83 = .ok (.iload 4, 2) := by decide +kernel
theorem dX1_bestToMend_85 : decode cX1_bestToMend 85 = .ok (.iaload, 1) := by decide +kernel
theorem dX1_bestToMend_86 : decode cX1_bestToMend 86 = .ok (.aload_n 0, 1) := by decide +kernel
theorem dX1_bestToMend_87 : decode cX1_bestToMend 87 = .ok (.getfield 25, 3) := by decide +kernel
theorem dX1_bestToMend_90 : decode cX1_bestToMend 90 = .ok (.iload_n 2, 1) := by decide +kernel
theorem dX1_bestToMend_91 : decode cX1_bestToMend 91 = .ok (.iaload, 1) := by decide +kernel
theorem dX1_bestToMend_92 : decode cX1_bestToMend 92 = .ok (.if_icmp .gt 8, 3) := by decide +kernel
theorem dX1_bestToMend_95 : decode cX1_bestToMend 95 = .ok (.iload 5, 2) := by decide +kernel
theorem dX1_bestToMend_97 : decode cX1_bestToMend 97 = .ok (.ifCond .eq 6, 3) := by decide +kernel
theorem dX1_bestToMend_100 : decode cX1_bestToMend 100 = .ok (.iload 4, 2) := by decide +kernel
theorem dX1_bestToMend_102 : decode cX1_bestToMend 102 = .ok (.istore_n 2, 1) := by decide +kernel
theorem dX1_bestToMend_103 : decode cX1_bestToMend 103 = .ok (.iinc 4 1, 3) := by decide +kernel
theorem dX1_bestToMend_106 : decode cX1_bestToMend 106 = .ok (.goto (-83), 3) := by decide +kernel
theorem dX1_bestToMend_109 : decode cX1_bestToMend 109 = .ok (.iload_n 2, 1) := by decide +kernel
theorem dX1_bestToMend_110 : decode cX1_bestToMend 110 = .ok (.ireturn, 1) := by decide +kernel
theorem dX2_init_0 : decode cX2_init 0 = .ok (.aload_n 0, 1) := by decide +kernel
theorem dX2_init_1 : decode cX2_init 1 = .ok (.invokespecial 3, 3) := by decide +kernel
theorem dX2_init_4 : decode cX2_init 4 = .ok (.aload_n 0, 1) := by decide +kernel
theorem dX2_init_5 : decode cX2_init 5 = .ok (.bipush 12, 2) := by decide +kernel
theorem dX2_init_7 : decode cX2_init 7 = .ok (.newarray .int, 2) := by decide +kernel
theorem dX2_init_9 : decode cX2_init 9 = .ok (.putfield 9, 3) := by decide +kernel
theorem dX2_init_12 : decode cX2_init 12 = .ok (.aload_n 0, 1) := by decide +kernel
theorem dX2_init_13 : decode cX2_init 13 = .ok (.bipush 12, 2) := by decide +kernel
theorem dX2_init_15 : decode cX2_init 15 = .ok (.newarray .int, 2) := by decide +kernel
theorem dX2_init_17 : decode cX2_init 17 = .ok (.putfield 15, 3) := by decide +kernel
theorem dX2_init_20 : decode cX2_init 20 = .ok (.aload_n 0, 1) := by decide +kernel
theorem dX2_init_21 : decode cX2_init 21 = .ok (.bipush 12, 2) := by decide +kernel
theorem dX2_init_23 : decode cX2_init 23 = .ok (.newarray .int, 2) := by decide +kernel
theorem dX2_init_25 : decode cX2_init 25 = .ok (.putfield 18, 3) := by decide +kernel
theorem dX2_init_28 : decode cX2_init 28 = .ok (.aload_n 0, 1) := by decide +kernel
theorem dX2_init_29 : decode cX2_init 29 = .ok (.bipush 12, 2) := by decide +kernel
theorem dX2_init_31 : decode cX2_init 31 = .ok (.newarray .int, 2) := by decide +kernel
theorem dX2_init_33 : decode cX2_init 33 = .ok (.putfield 21, 3) := by decide +kernel
theorem dX2_init_36 : decode cX2_init 36 = .ok (.aload_n 0, 1) := by decide +kernel
theorem dX2_init_37 : decode cX2_init 37 = .ok (.sipush 144, 3) := by decide +kernel
theorem dX2_init_40 : decode cX2_init 40 = .ok (.newarray .int, 2) := by decide +kernel
theorem dX2_init_42 : decode cX2_init 42 = .ok (.putfield 24, 3) := by decide +kernel
theorem dX2_init_45 : decode cX2_init 45 = .ok (.aload_n 0, 1) := by decide +kernel
theorem dX2_init_46 : decode cX2_init 46 = .ok (.bipush 60, 2) := by decide +kernel
theorem dX2_init_48 : decode cX2_init 48 = .ok (.newarray .int, 2) := by decide +kernel
theorem dX2_init_50 : decode cX2_init 50 = .ok (.putfield 27, 3) := by decide +kernel
theorem dX2_init_53 : decode cX2_init 53 = .ok (.aload_n 0, 1) := by decide +kernel
theorem dX2_init_54 : decode cX2_init 54 = .ok (.bipush 60, 2) := by decide +kernel
theorem dX2_init_56 : decode cX2_init 56 = .ok (.newarray .int, 2) := by decide +kernel
theorem dX2_init_58 : decode cX2_init 58 = .ok (.putfield 30, 3) := by decide +kernel
theorem dX2_init_61 : decode cX2_init 61 = .ok (.aload_n 0, 1) := by decide +kernel
theorem dX2_init_62 : decode cX2_init 62 = .ok (.bipush 12, 2) := by decide +kernel
theorem dX2_init_64 : decode cX2_init 64 = .ok (.putfield 33, 3) := by decide +kernel
theorem dX2_init_67 : decode cX2_init 67 = .ok (.aload_n 0, 1) := by decide +kernel
theorem dX2_init_68 : decode cX2_init 68 = .ok (.bipush 80, 2) := by decide +kernel
theorem dX2_init_70 : decode cX2_init 70 = .ok (.newarray .byte, 2) := by decide +kernel
theorem dX2_init_72 : decode cX2_init 72 = .ok (.putfield 37, 3) := by decide +kernel
theorem dX2_init_75 : decode cX2_init 75 = .ok (.aload_n 0, 1) := by decide +kernel
theorem dX2_init_76 : decode cX2_init 76 = .ok (.bipush 48, 2) := by decide +kernel
theorem dX2_init_78 : decode cX2_init 78 = .ok (.newarray .int, 2) := by decide +kernel
theorem dX2_init_80 : decode cX2_init 80 = .ok (.putfield 41, 3) := by decide +kernel
theorem dX2_init_83 : decode cX2_init 83 = .ok (.aload_n 0, 1) := by decide +kernel
theorem dX2_init_84 : decode cX2_init 84 = .ok (.iconst 1, 1) := by decide +kernel
theorem dX2_init_85 : decode cX2_init 85 = .ok (.putfield 44, 3) := by decide +kernel
theorem dX2_init_88 : decode cX2_init 88 = .ok (.return_, 1) := by decide +kernel
theorem dX2_copyFrom_0 : decode cX2_copyFrom 0 = .ok (.aload_n 0, 1) := by decide +kernel
theorem dX2_copyFrom_1 : decode cX2_copyFrom 1 = .ok (.aload_n 1, 1) := by decide +kernel
theorem dX2_copyFrom_2 : decode cX2_copyFrom 2 = .ok (.getfield 48, 3) := by decide +kernel
theorem dX2_copyFrom_5 : decode cX2_copyFrom 5 = .ok (.putfield 48, 3) := by decide +kernel
theorem dX2_copyFrom_8 : decode cX2_copyFrom 8 = .ok (.aload_n 1, 1) := by decide +kernel
theorem dX2_copyFrom_9 : decode cX2_copyFrom 9 = .ok (.getfield 9, 3) := by decide +kernel
theorem dX2_copyFrom_12 : decode cX2_copyFrom 12 = .ok (.iconst 0, 1) := by decide +kernel
theorem dX2_copyFrom_13 : decode cX2_copyFrom 13 = .ok (.aload_n 0, 1) := by decide +kernel
theorem dX2_copyFrom_14 : decode cX2_copyFrom 14 = .ok (.getfield 9, 3) := by decide +kernel
theorem dX2_copyFrom_17 : decode cX2_copyFrom 17 = .ok (.iconst 0, 1) := by decide +kernel
theorem dX2_copyFrom_18 : decode cX2_copyFrom 18 = .ok (.bipush 12, 2) := by decide +kernel
theorem dX2_copyFrom_20 : decode cX2_copyFrom 20 = .ok (.invokestatic 51, 3) := by decide +kernel
theorem dX2_copyFrom_23 : decode cX2_copyFrom 23 = .ok (.aload_n 1, 1) := by decide +kernel
theorem dX2_copyFrom_24 : decode cX2_copyFrom 24 = .ok (.getfield 15, 3) := by decide +kernel
theorem dX2_copyFrom_27 : decode cX2_copyFrom 27 = .ok (.iconst 0, 1) := by decide +kernel
theorem dX2_copyFrom_28 : decode cX2_copyFrom 28 = .ok (.aload_n 0, 1) := by decide +kernel
theorem dX2_copyFrom_29 : decode cX2_copyFrom 29 = .ok (.getfield 15, 3) := by decide +kernel
theorem dX2_copyFrom_32 : decode cX2_copyFrom 32 = .ok (.iconst 0, 1) := by decide +kernel
theorem dX2_copyFrom_33 : decode cX2_copyFrom 33 = .ok (.bipush 12, 2) := by decide +kernel
theorem dX2_copyFrom_35 : decode cX2_copyFrom 35 = .ok (.invokestatic 51, 3) := by decide +kernel
theorem dX2_copyFrom_38 : decode cX2_copyFrom 38 = .ok (.aload_n 1, 1) := by decide +kernel
theorem dX2_copyFrom_39 : decode cX2_copyFrom 39 = .ok (.getfield 18, 3) := by decide +kernel
theorem dX2_copyFrom_42 : decode cX2_copyFrom 42 = .ok (.iconst 0, 1) := by decide +kernel
theorem dX2_copyFrom_43 : decode cX2_copyFrom 43 = .ok (.aload_n 0, 1) := by decide +kernel
theorem dX2_copyFrom_44 : decode cX2_copyFrom 44 = .ok (.getfield 18, 3) := by decide +kernel
theorem dX2_copyFrom_47 : decode cX2_copyFrom 47 = .ok (.iconst 0, 1) := by decide +kernel
theorem dX2_copyFrom_48 : decode cX2_copyFrom 48 = .ok (.bipush 12, 2) := by decide +kernel
theorem dX2_copyFrom_50 : decode cX2_copyFrom 50 = .ok (.invokestatic 51, 3) := by decide +kernel
theorem dX2_copyFrom_53 : decode cX2_copyFrom 53 = .ok (.aload_n 1, 1) := by decide +kernel
theorem dX2_copyFrom_54 : decode cX2_copyFrom 54 = .ok (.getfield 21, 3) := by decide +kernel
theorem dX2_copyFrom_57 : decode cX2_copyFrom 57 = .ok (.iconst 0, 1) := by decide +kernel
theorem dX2_copyFrom_58 : decode cX2_copyFrom 58 = .ok (.aload_n 0, 1) := by decide +kernel
theorem dX2_copyFrom_59 : decode cX2_copyFrom 59 = .ok (.getfield 21, 3) := by decide +kernel
theorem dX2_copyFrom_62 : decode cX2_copyFrom 62 = .ok (.iconst 0, 1) := by decide +kernel
theorem dX2_copyFrom_63 : decode cX2_copyFrom 63 = .ok (.bipush 12, 2) := by decide +kernel
theorem dX2_copyFrom_65 : decode cX2_copyFrom 65 = .ok (.invokestatic 51, 3) := by decide +kernel
theorem dX2_copyFrom_68 : decode cX2_copyFrom 68 = .ok (.aload_n 1, 1) := by decide +kernel
theorem dX2_copyFrom_69 : decode cX2_copyFrom 69 = .ok (.getfield 24, 3) := by decide +kernel
theorem dX2_copyFrom_72 : decode cX2_copyFrom 72 = .ok (.iconst 0, 1) := by decide +kernel
theorem dX2_copyFrom_73 : decode cX2_copyFrom 73 = .ok (.aload_n 0, 1) := by decide +kernel
theorem dX2_copyFrom_74 : decode cX2_copyFrom 74 = .ok (.getfield 24, 3) := by decide +kernel
theorem dX2_copyFrom_77 : decode cX2_copyFrom 77 = .ok (.iconst 0, 1) := by decide +kernel
theorem dX2_copyFrom_78 : decode cX2_copyFrom 78 = .ok (.sipush 144, 3) := by decide +kernel
theorem dX2_copyFrom_81 : decode cX2_copyFrom 81 = .ok (.invokestatic 51, 3) := by decide +kernel
theorem dX2_copyFrom_84 : decode cX2_copyFrom 84 = .ok (.aload_n 0, 1) := by decide +kernel
theorem dX2_copyFrom_85 : decode cX2_copyFrom 85 = .ok (.aload_n 1, 1) := by decide +kernel
theorem dX2_copyFrom_86 : decode cX2_copyFrom 86 = .ok (.getfield 57, 3) := by decide +kernel
theorem dX2_copyFrom_89 : decode cX2_copyFrom 89 = .ok (.putfield 57, 3) := by decide +kernel
theorem dX2_copyFrom_92 : decode cX2_copyFrom 92 = .ok (.aload_n 1, 1) := by decide +kernel
theorem dX2_copyFrom_93 : decode cX2_copyFrom 93 = .ok (.getfield 27, 3) := by decide +kernel
theorem dX2_copyFrom_96 : decode cX2_copyFrom 96 = .ok (.iconst 0, 1) := by decide +kernel
theorem dX2_copyFrom_97 : decode cX2_copyFrom 97 = .ok (.aload_n 0, 1) := by decide +kernel
theorem dX2_copyFrom_98 : decode cX2_copyFrom 98 = .ok (.getfield 27, 3) := by decide +kernel
theorem dX2_copyFrom_101 : decode cX2_copyFrom 101 = .ok (.iconst 0, 1) := by decide +kernel
theorem dX2_copyFrom_102 : decode cX2_copyFrom 102 = .ok (.bipush 60, 2) := by decide +kernel
theorem dX2_copyFrom_104 : decode cX2_copyFrom 104 = .ok (.invokestatic 51, 3) := by decide +kernel
theorem dX2_copyFrom_107 : decode cX2_copyFrom 107 = .ok (.aload_n 1, 1) := by decide +kernel
theorem dX2_copyFrom_108 : decode cX2_copyFrom 108 = .ok (.getfield 30, 3) := by decide +kernel
theorem dX2_copyFrom_111 : decode cX2_copyFrom 111 = .ok (.iconst 0, 1) := by decide +kernel
theorem dX2_copyFrom_112 : decode cX2_copyFrom 112 = .ok (.aload_n 0, 1) := by decide +kernel
theorem dX2_copyFrom_113 : decode cX2_copyFrom 113 = .ok (.getfield 30, 3) := by decide +kernel
theorem dX2_copyFrom_116 : decode cX2_copyFrom 116 = .ok (.iconst 0, 1) := by decide +kernel
theorem dX2_copyFrom_117 : decode cX2_copyFrom 117 = .ok (.bipush 60, 2) := by decide +kernel
theorem dX2_copyFrom_119 : decode cX2_copyFrom 119 = .ok (.invokestatic 51, 3) := by decide +kernel
theorem dX2_copyFrom_122 : decode cX2_copyFrom 122 = .ok (.aload_n 0, 1) := by decide +kernel
theorem dX2_copyFrom_123 : decode cX2_copyFrom 123 = .ok (.aload_n 1, 1) := by decide +kernel
theorem dX2_copyFrom_124 : decode cX2_copyFrom 124 = .ok (.getfield 60, 3) := by decide +kernel
theorem dX2_copyFrom_127 : decode cX2_copyFrom 127 = .ok (.putfield 60, 3) := by decide +kernel
theorem dX2_copyFrom_130 : decode cX2_copyFrom 130 = .ok (.aload_n 0, 1) := by decide +kernel
theorem dX2_copyFrom_131 : decode cX2_copyFrom 131 = .ok (.aload_n 1, 1) := by decide +kernel
theorem dX2_copyFrom_132 : decode cX2_copyFrom 132 = .ok (.getfield 64, 3) := by decide +kernel
theorem dX2_copyFrom_135 : decode cX2_copyFrom 135 = .ok (.putfield 64, 3) := by decide +kernel
theorem dX2_copyFrom_138 : decode cX2_copyFrom 138 = .ok (.aload_n 0, 1) := by decide +kernel
theorem dX2_copyFrom_139 : decode cX2_copyFrom 139 = .ok (.aload_n 1, 1) := by decide +kernel
theorem dX2_copyFrom_140 : decode cX2_copyFrom 140 = .ok (.getfield 33, 3) := by decide +kernel
theorem dX2_copyFrom_143 : decode cX2_copyFrom 143 = .ok (.putfield 33, 3) := by decide +kernel
theorem dX2_copyFrom_146 : decode cX2_copyFrom 146 = .ok (.aload_n 1, 1) := by decide +kernel
theorem dX2_copyFrom_147 : decode cX2_copyFrom 147 = .ok (.getfield 37, 3) := by decide +kernel
theorem dX2_copyFrom_150 : decode cX2_copyFrom 150 = .ok (.iconst 0, 1) := by decide +kernel
theorem dX2_copyFrom_151 : decode cX2_copyFrom 151 = .ok (.aload_n 0, 1) := by decide +kernel
theorem dX2_copyFrom_152 : decode cX2_copyFrom 152 = .ok (.getfield 37, 3) := by decide +kernel
theorem dX2_copyFrom_155 : decode cX2_copyFrom 155 = .ok (.iconst 0, 1) := by decide +kernel
theorem dX2_copyFrom_156 : decode cX2_copyFrom 156 = .ok (.bipush 80, 2) := by decide +kernel
theorem dX2_copyFrom_158 : decode cX2_copyFrom 158 = .ok (.invokestatic 51, 3) := by decide +kernel
theorem dX2_copyFrom_161 : decode cX2_copyFrom 161 = .ok (.aload_n 0, 1) := by decide +kernel
theorem dX2_copyFrom_162 : decode cX2_copyFrom 162 = .ok (.aload_n 1, 1) := by decide +kernel
theorem dX2_copyFrom_163 : decode cX2_copyFrom 163 = .ok (.getfield 67, 3) := by decide +kernel
theorem dX2_copyFrom_166 : decode cX2_copyFrom 166 = .ok (.putfield 67, 3) := by decide +kernel
theorem dX2_copyFrom_169 : decode cX2_copyFrom 169 = .ok (.aload_n 1, 1) := by decide +kernel
theorem dX2_copyFrom_170 : decode cX2_copyFrom 170 = .ok (.getfield 41, 3) := by decide +kernel
theorem dX2_copyFrom_173 : decode cX2_copyFrom 173 = .ok (.iconst 0, 1) := by decide +kernel
theorem dX2_copyFrom_174 : decode cX2_copyFrom 174 = .ok (.aload_n 0, 1) := by decide +kernel
theorem dX2_copyFrom_175 : decode cX2_copyFrom 175 = .ok (.getfield 41, 3) := by decide +kernel
theorem dX2_copyFrom_178 : decode cX2_copyFrom 178 = .ok (.iconst 0, 1) := by decide +kernel
theorem dX2_copyFrom_179 : decode cX2_copyFrom 179 = .ok (.bipush 48, 2) := by decide +kernel
theorem dX2_copyFrom_181 : decode cX2_copyFrom 181 = .ok (.invokestatic 51, 3) := by decide +kernel
theorem dX2_copyFrom_184 : decode cX2_copyFrom 184 = .ok (.aload_n 0, 1) := by decide +kernel
theorem dX2_copyFrom_185 : decode cX2_copyFrom 185 = .ok (.aload_n 1, 1) := by decide +kernel
theorem dX2_copyFrom_186 : decode cX2_copyFrom 186 = .ok (.getfield 70, 3) := by decide +kernel
theorem dX2_copyFrom_189 : decode cX2_copyFrom 189 = .ok (.putfield 70, 3) := by decide +kernel
theorem dX2_copyFrom_192 : decode cX2_copyFrom 192 = .ok (.aload_n 0, 1) := by decide +kernel
theorem dX2_copyFrom_193 : decode cX2_copyFrom 193 = .ok (.iconst 1, 1) := by decide +kernel
theorem dX2_copyFrom_194 : decode cX2_copyFrom 194 = .ok (.putfield 44, 3) := by decide +kernel
theorem dX2_copyFrom_197 : decode cX2_copyFrom 197 = .ok (.return_, 1) := by decide +kernel
theorem dX2_has_0 : decode cX2_has 0 = .ok (.iload_n 1, 1) := by decide +kernel
theorem dX2_has_1 : decode cX2_has 1 = .ok (.ifCond .lt 15, 3) := by decide +kernel
theorem dX2_has_4 : decode cX2_has 4 = .ok (.iload_n 1, 1) := by decide +kernel
theorem dX2_has_5 : decode cX2_has 5 = .ok (.aload_n 0, 1) := by decide +kernel
theorem dX2_has_6 : decode cX2_has 6 = .ok (.getfield 48, 3) := by decide +kernel
theorem dX2_has_9 : decode cX2_has 9 = .ok (.if_icmp .ge 7, 3) := by decide +kernel
theorem dX2_has_12 : decode cX2_has 12 = .ok (.iconst 1, 1) := by decide +kernel
theorem dX2_has_13 : decode cX2_has 13 = .ok (.goto 4, 3) := by decide +kernel
theorem dX2_has_16 : decode cX2_has 16 = .ok (.iconst 0, 1) := by decide +kernel
theorem dX2_has_17 : decode cX2_has 17 = .ok (.ireturn, 1) := by decide +kernel
theorem dX2_hasAll_0 : decode cX2_hasAll 0 = .ok (.iload_n 1, 1) := by decide +kernel
theorem dX2_hasAll_1 : decode cX2_hasAll 1 = .ok (.aload_n 0, 1) := by decide +kernel
theorem dX2_hasAll_2 : decode cX2_hasAll 2 = .ok (.invokevirtual 73, 3) := by decide +kernel
theorem dX2_hasAll_5 : decode cX2_hasAll 5 = .ok (.iconst (-1), 1) := by decide +kernel
theorem dX2_hasAll_6 : decode cX2_hasAll 6 = .ok (.ixor, 1) := by decide +kernel
theorem dX2_hasAll_7 : decode cX2_hasAll 7 = .ok (.iand, 1) := by decide +kernel
theorem dX2_hasAll_8 : decode cX2_hasAll 8 = .ok (.ifCond .ne 7, 3) := by decide +kernel
theorem dX2_hasAll_11 : decode cX2_hasAll 11 = .ok (.iconst 1, 1) := by decide +kernel
theorem dX2_hasAll_12 : decode cX2_hasAll 12 = .ok (.goto 4, 3) := by decide +kernel
theorem dX2_hasAll_15 : decode cX2_hasAll 15 = .ok (.iconst 0, 1) := by decide +kernel
theorem dX2_hasAll_16 : decode cX2_hasAll 16 = .ok (.ireturn, 1) := by decide +kernel
theorem dX2_everyone_0 : decode cX2_everyone 0 = .ok (.iconst 1, 1) := by decide +kernel
theorem dX2_everyone_1 : decode cX2_everyone 1 = .ok (.aload_n 0, 1) := by decide +kernel
theorem dX2_everyone_2 : decode cX2_everyone 2 = .ok (.getfield 48, 3) := by decide +kernel
theorem dX2_everyone_5 : decode cX2_everyone 5 = .ok (.ishl, 1) := by decide +kernel
theorem dX2_everyone_6 : decode cX2_everyone 6 = .ok (.iconst 1, 1) := by decide +kernel
theorem dX2_everyone_7 : decode cX2_everyone 7 = .ok (.isub, 1) := by decide +kernel
theorem dX2_everyone_8 : decode cX2_everyone 8 = .ok (.ireturn, 1) := by decide +kernel
theorem dX2_hasRoomForMachine_0 : decode cX2_hasRoomForMachine 0 = .ok (.aload_n 0, 1) := by decide +kernel
theorem dX2_hasRoomForMachine_1 : decode cX2_hasRoomForMachine 1 = .ok (.getfield 48, 3) := by decide +kernel
theorem dX2_hasRoomForMachine_4 : decode cX2_hasRoomForMachine 4 = .ok (.bipush 12, 2) := by decide +kernel
theorem dX2_hasRoomForMachine_6 : decode cX2_hasRoomForMachine 6 = .ok (.if_icmp .ge 7, 3) := by decide +kernel
theorem dX2_hasRoomForMachine_9 : decode cX2_hasRoomForMachine 9 = .ok (.iconst 1, 1) := by decide +kernel
theorem dX2_hasRoomForMachine_10 : decode cX2_hasRoomForMachine 10 = .ok (.goto 4, 3) := by decide +kernel
theorem dX2_hasRoomForMachine_13 : decode cX2_hasRoomForMachine 13 = .ok (.iconst 0, 1) := by decide +kernel
theorem dX2_hasRoomForMachine_14 : decode cX2_hasRoomForMachine 14 = .ok (.ireturn, 1) := by decide +kernel
theorem dX2_addMachine_0 : decode cX2_addMachine 0 = .ok (.aload_n 0, 1) := by decide +kernel
theorem dX2_addMachine_1 : decode cX2_addMachine 1 = .ok (.getfield 9, 3) := by decide +kernel
theorem dX2_addMachine_4 : decode cX2_addMachine 4 = .ok (.aload_n 0, 1) := by decide +kernel
theorem dX2_addMachine_5 : decode cX2_addMachine 5 = .ok (.getfield 48, 3) := by decide +kernel
theorem dX2_addMachine_8 : decode cX2_addMachine 8 = .ok (.iload_n 1, 1) := by decide +kernel
theorem dX2_addMachine_9 : decode cX2_addMachine 9 = .ok (.iastore, 1) := by decide +kernel
theorem dX2_addMachine_10 : decode cX2_addMachine 10 = .ok (.aload_n 0, 1) := by decide +kernel
theorem dX2_addMachine_11 : decode cX2_addMachine 11 = .ok (.getfield 15, 3) := by decide +kernel
theorem dX2_addMachine_14 : decode cX2_addMachine 14 = .ok (.aload_n 0, 1) := by decide +kernel
theorem dX2_addMachine_15 : decode cX2_addMachine 15 = .ok (.getfield 48, 3) := by decide +kernel
theorem dX2_addMachine_18 : decode cX2_addMachine 18 = .ok (.iload_n 2, 1) := by decide +kernel
theorem dX2_addMachine_19 : decode cX2_addMachine 19 = .ok (.iastore, 1) := by decide +kernel
theorem dX2_addMachine_20 : decode cX2_addMachine 20 = .ok (.aload_n 0, 1) := by decide +kernel
theorem dX2_addMachine_21 : decode cX2_addMachine 21 = .ok (.getfield 18, 3) := by decide +kernel
theorem dX2_addMachine_24 : decode cX2_addMachine 24 = .ok (.aload_n 0, 1) := by decide +kernel
theorem dX2_addMachine_25 : decode cX2_addMachine 25 = .ok (.getfield 48, 3) := by decide +kernel
theorem dX2_addMachine_28 : decode cX2_addMachine 28 = .ok (.iload_n 3, 1) := by decide +kernel
theorem dX2_addMachine_29 : decode cX2_addMachine 29 = .ok (.iastore, 1) := by decide +kernel
theorem dX2_addMachine_30 : decode cX2_addMachine 30 = .ok (.aload_n 0, 1) := by decide +kernel
theorem dX2_addMachine_31 : decode cX2_addMachine 31 = .ok (.dup, 1) := by decide +kernel
theorem dX2_addMachine_32 : decode cX2_addMachine 32 = .ok (.getfield 48, 3) := by decide +kernel
theorem dX2_addMachine_35 : decode cX2_addMachine 35 = .ok (.iconst 1, 1) := by decide +kernel
theorem dX2_addMachine_36 : decode cX2_addMachine 36 = .ok (.iadd, 1) := by decide +kernel
theorem dX2_addMachine_37 : decode cX2_addMachine 37 = .ok (.putfield 48, 3) := by decide +kernel
theorem dX2_addMachine_40 : decode cX2_addMachine 40 = .ok (.aload_n 0, 1) := by decide +kernel
theorem dX2_addMachine_41 : decode cX2_addMachine 41 = .ok (.iconst 1, 1) := by decide +kernel
theorem dX2_addMachine_42 : decode cX2_addMachine 42 = .ok (.putfield 44, 3) := by decide +kernel
theorem dX2_addMachine_45 : decode cX2_addMachine 45 = .ok (.aload_n 0, 1) := by decide +kernel
theorem dX2_addMachine_46 : decode cX2_addMachine 46 = .ok (.getfield 48, 3) := by decide +kernel
theorem dX2_addMachine_49 : decode cX2_addMachine 49 = .ok (.iconst 1, 1) := by decide +kernel
theorem dX2_addMachine_50 : decode cX2_addMachine 50 = .ok (.isub, 1) := by decide +kernel
theorem dX2_addMachine_51 : decode cX2_addMachine 51 = .ok (.ireturn, 1) := by decide +kernel
theorem dX2_tied_0 : decode cX2_tied 0 = .ok (.aload_n 0, 1) := by decide +kernel
theorem dX2_tied_1 : decode cX2_tied 1 = .ok (.getfield 21, 3) := by decide +kernel
theorem dX2_tied_4 : decode cX2_tied 4 = .ok (.iload_n 1, 1) := by decide +kernel
theorem dX2_tied_5 : decode cX2_tied 5 = .ok (.iaload, 1) := by decide +kernel
theorem dX2_tied_6 : decode cX2_tied 6 = .ok (.iload_n 2, 1) := by decide +kernel
theorem dX2_tied_7 : decode cX2_tied 7 = .ok (.ishr, 1) := by decide +kernel
theorem dX2_tied_8 : decode cX2_tied 8 = .ok (.iconst 1, 1) := by decide +kernel
theorem dX2_tied_9 : decode cX2_tied 9 = .ok (.iand, 1) := by decide +kernel
theorem dX2_tied_10 : decode cX2_tied 10 = .ok (.ifCond .eq 7, 3) := by decide +kernel
theorem dX2_tied_13 : decode cX2_tied 13 = .ok (.iconst 1, 1) := by decide +kernel
theorem dX2_tied_14 : decode cX2_tied 14 = .ok (.goto 4, 3) := by decide +kernel
theorem dX2_tied_17 : decode cX2_tied 17 = .ok (.iconst 0, 1) := by decide +kernel
theorem dX2_tied_18 : decode cX2_tied 18 = .ok (.ireturn, 1) := by decide +kernel
theorem dX2_costOf_0 : decode cX2_costOf 0 = .ok (.aload_n 0, 1) := by decide +kernel
theorem dX2_costOf_1 : decode cX2_costOf 1 = .ok (.getfield 24, 3) := by decide +kernel
theorem dX2_costOf_4 : decode cX2_costOf 4 = .ok (.iload_n 1, 1) := by decide +kernel
theorem dX2_costOf_5 : decode cX2_costOf 5 = .ok (.bipush 12, 2) := by decide +kernel
theorem dX2_costOf_7 : decode cX2_costOf 7 = .ok (.imul, 1) := by decide +kernel
theorem dX2_costOf_8 : decode cX2_costOf 8 = .ok (.iload_n 2, 1) := by decide +kernel
theorem dX2_costOf_9 : decode cX2_costOf 9 = .ok (.iadd, 1) := by decide +kernel
theorem dX2_costOf_10 : decode cX2_costOf 10 = .ok (.iaload, 1) := by decide +kernel
theorem dX2_costOf_11 : decode cX2_costOf 11 = .ok (.ireturn, 1) := by decide +kernel
theorem dX2_setTie_0 : decode cX2_setTie 0 = .ok (.aload_n 0, 1) := by decide +kernel
theorem dX2_setTie_1 : decode cX2_setTie 1 = .ok (.iload_n 1, 1) := by decide +kernel
theorem dX2_setTie_2 : decode cX2_setTie 2 = .ok (.iload_n 2, 1) := by decide +kernel
theorem dX2_setTie_3 : decode cX2_setTie 3 = .ok (.invokevirtual 77, 3) := by decide +kernel
theorem dX2_setTie_6 : decode cX2_setTie 6 = .ok (.istore 4, 2) := by decide +kernel
theorem dX2_setTie_8 : decode cX2_setTie 8 = .ok (.aload_n 0, 1) := by decide +kernel
theorem dX2_setTie_9 : decode cX2_setTie 9 = .ok (.getfield 24, 3) := by decide +kernel
theorem dX2_setTie_12 : decode cX2_setTie 12 = .ok (.iload_n 1, 1) := by decide +kernel
theorem dX2_setTie_13 : decode cX2_setTie 13 = .ok (.bipush 12, 2) := by decide +kernel
theorem dX2_setTie_15 : decode cX2_setTie 15 = .ok (.imul, 1) := by decide +kernel
theorem dX2_setTie_16 : decode cX2_setTie 16 = .ok (.iload_n 2, 1) := by decide +kernel
theorem dX2_setTie_17 : decode cX2_setTie 17 = .ok (.iadd, 1) := by decide +kernel
theorem dX2_setTie_18 : decode cX2_setTie 18 = .ok (.iload_n 3, 1) := by decide +kernel
theorem dX2_setTie_19 : decode cX2_setTie 19 = .ok (.iastore, 1) := by decide +kernel
theorem dX2_setTie_20 : decode cX2_setTie 20 = .ok (.iload_n 3, 1) := by decide +kernel
theorem dX2_setTie_21 : decode cX2_setTie 21 = .ok (.ifCond .ne 20, 3) := by decide +kernel
theorem dX2_setTie_24 : decode cX2_setTie 24 = .ok (.aload_n 0, 1) := by decide +kernel
theorem dX2_setTie_25 : decode cX2_setTie 25 = .ok (.getfield 21, 3) := by decide +kernel
theorem dX2_setTie_28 : decode cX2_setTie 28 = .ok (.iload_n 1, 1) := by decide +kernel
theorem dX2_setTie_29 : decode cX2_setTie 29 = .ok (.dup2, 1) := by decide +kernel
theorem dX2_setTie_30 : decode cX2_setTie 30 = .ok (.iaload, 1) := by decide +kernel
theorem dX2_setTie_31 : decode cX2_setTie 31 = .ok (.iconst 1, 1) := by decide +kernel
theorem dX2_setTie_32 : decode cX2_setTie 32 = .ok (.iload_n 2, 1) := by decide +kernel
theorem dX2_setTie_33 : decode cX2_setTie 33 = .ok (.ishl, 1) := by decide +kernel
theorem dX2_setTie_34 : decode cX2_setTie 34 = .ok (.iconst (-1), 1) := by decide +kernel
theorem dX2_setTie_35 : decode cX2_setTie 35 = .ok (.ixor, 1) := by decide +kernel
theorem dX2_setTie_36 : decode cX2_setTie 36 = .ok (.iand, 1) := by decide +kernel
theorem dX2_setTie_37 : decode cX2_setTie 37 = .ok (.iastore, 1) := by decide +kernel
theorem dX2_setTie_38 : decode cX2_setTie 38 = .ok (.goto 15, 3) := by decide +kernel
theorem dX2_setTie_41 : decode cX2_setTie 41 = .ok (.aload_n 0, 1) := by decide +kernel
theorem dX2_setTie_42 : decode cX2_setTie 42 = .ok (.getfield 21, 3) := by decide +kernel
theorem dX2_setTie_45 : decode cX2_setTie 45 = .ok (.iload_n 1, 1) := by decide +kernel
theorem dX2_setTie_46 : decode cX2_setTie 46 = .ok (.dup2, 1) := by decide +kernel
theorem dX2_setTie_47 : decode cX2_setTie 47 = .ok (.iaload, 1) := by decide +kernel
theorem dX2_setTie_48 : decode cX2_setTie 48 = .ok (.iconst 1, 1) := by decide +kernel
theorem dX2_setTie_49 : decode cX2_setTie 49 = .ok (.iload_n 2, 1) := by decide +kernel
theorem dX2_setTie_50 : decode cX2_setTie 50 = .ok (.ishl, 1) := by decide +kernel
theorem dX2_setTie_51 : decode cX2_setTie 51 = .ok (.ior, 1) := by decide +kernel
theorem dX2_setTie_52 : decode cX2_setTie 52 = .ok (.iastore, 1) := by decide +kernel
theorem dX2_setTie_53 : decode cX2_setTie 53 = .ok (.iload 4, 2) := by decide +kernel
theorem dX2_setTie_55 : decode cX2_setTie 55 = .ok (.ireturn, 1) := by decide +kernel
theorem dX2_ties_0 : decode cX2_ties 0 = .ok (.iconst 0, 1) := by decide +kernel
theorem dX2_ties_1 : decode cX2_ties 1 = .ok (.istore_n 1, 1) := by decide +kernel
theorem dX2_ties_2 : decode cX2_ties 2 = .ok (.iconst 0, 1) := by decide +kernel
theorem dX2_ties_3 : decode cX2_ties 3 = .ok (.istore_n 2, 1) := by decide +kernel
theorem dX2_ties_4 : decode cX2_ties 4 = .ok (.iload_n 2, 1) := by decide +kernel
theorem dX2_ties_5 : decode cX2_ties 5 = .ok (.aload_n 0, 1) := by decide +kernel
theorem dX2_ties_6 : decode cX2_ties 6 = .ok (.getfield 48, 3) := by decide +kernel
theorem dX2_ties_9 : decode cX2_ties 9 = .ok (.if_icmp .ge 21, 3) := by decide +kernel
theorem dX2_ties_12 : decode cX2_ties 12 = .ok (.iload_n 1, 1) := by decide +kernel
theorem dX2_ties_13 : decode cX2_ties 13 = .ok (.aload_n 0, 1) := by decide +kernel
theorem dX2_ties_14 : decode cX2_ties 14 = .ok (.getfield 21, 3) := by decide +kernel
theorem dX2_ties_17 : decode cX2_ties 17 = .ok (.iload_n 2, 1) := by decide +kernel
theorem dX2_ties_18 : decode cX2_ties 18 = .ok (.iaload, 1) := by decide +kernel
theorem dX2_ties_19 : decode cX2_ties 19 = .ok (.invokestatic 81, 3) := by decide +kernel
theorem dX2_ties_22 : decode cX2_ties 22 = .ok (.iadd, 1) := by decide +kernel
theorem dX2_ties_23 : decode cX2_ties 23 = .ok (.istore_n 1, 1) := by decide +kernel
theorem dX2_ties_24 : decode cX2_ties 24 = .ok (.iinc 2 1, 3) := by decide +kernel
theorem dX2_ties_27 : decode cX2_ties 27 = .ok (.goto (-23), 3) := by decide +kernel
theorem dX2_ties_30 : decode cX2_ties 30 = .ok (.iload_n 1, 1) := by decide +kernel
theorem dX2_ties_31 : decode cX2_ties 31 = .ok (.ireturn, 1) := by decide +kernel
theorem dX2_costOfAllTies_0 : decode cX2_costOfAllTies 0 = .ok (.iconst 0, 1) := by decide +kernel
theorem dX2_costOfAllTies_1 : decode cX2_costOfAllTies 1 = .ok (.istore_n 1, 1) := by decide +kernel
theorem dX2_costOfAllTies_2 : decode cX2_costOfAllTies 2 = .ok (.iconst 0, 1) := by decide +kernel
theorem dX2_costOfAllTies_3 : decode cX2_costOfAllTies 3 = .ok (.istore_n 2, 1) := by decide +kernel
theorem dX2_costOfAllTies_4 : decode cX2_costOfAllTies 4 = .ok (.iload_n 2, 1) := by decide +kernel
theorem dX2_costOfAllTies_5 : decode cX2_costOfAllTies 5 = .ok (.aload_n 0, 1) := by decide +kernel
theorem dX2_costOfAllTies_6 : decode cX2_costOfAllTies 6 = .ok (.getfield 24, 3) := by decide +kernel
theorem dX2_costOfAllTies_9 : decode cX2_costOfAllTies 9 = .ok (.arraylength, 1) := by decide +kernel
theorem dX2_costOfAllTies_10 : decode cX2_costOfAllTies 10 = .ok (.if_icmp .ge 18, 3) := by decide +kernel
theorem dX2_costOfAllTies_13 : decode cX2_costOfAllTies 13 = .ok (.iload_n 1, 1) := by decide +kernel
theorem dX2_costOfAllTies_14 : decode cX2_costOfAllTies 14 = .ok (.aload_n 0, 1) := by decide +kernel
theorem dX2_costOfAllTies_15 : decode cX2_costOfAllTies 15 = .ok (.getfield 24, 3) := by decide +kernel
theorem dX2_costOfAllTies_18 : decode cX2_costOfAllTies 18 = .ok (.iload_n 2, 1) := by decide +kernel
theorem dX2_costOfAllTies_19 : decode cX2_costOfAllTies 19 = .ok (.iaload, 1) := by decide +kernel
theorem dX2_costOfAllTies_20 : decode cX2_costOfAllTies 20 = .ok (.iadd, 1) := by decide +kernel
theorem dX2_costOfAllTies_21 : decode cX2_costOfAllTies 21 = .ok (.istore_n 1, 1) := by decide +kernel
theorem dX2_costOfAllTies_22 : decode cX2_costOfAllTies 22 = .ok (.iinc 2 1, 3) := by decide +kernel
theorem dX2_costOfAllTies_25 : decode cX2_costOfAllTies 25 = .ok (.goto (-21), 3) := by decide +kernel
theorem dX2_costOfAllTies_28 : decode cX2_costOfAllTies 28 = .ok (.iload_n 1, 1) := by decide +kernel
theorem dX2_costOfAllTies_29 : decode cX2_costOfAllTies 29 = .ok (.ireturn, 1) := by decide +kernel
theorem dX2_hasRoomForSaying_0 : decode cX2_hasRoomForSaying 0 = .ok (.aload_n 0, 1) := by decide +kernel
theorem dX2_hasRoomForSaying_1 : decode cX2_hasRoomForSaying 1 = .ok (.getfield 57, 3) := by decide +kernel
theorem dX2_hasRoomForSaying_4 : decode cX2_hasRoomForSaying 4 = .ok (.bipush 60, 2) := by decide +kernel
theorem dX2_hasRoomForSaying_6 : decode cX2_hasRoomForSaying 6 = .ok (.if_icmp .ge 7, 3) := by decide +kernel
theorem dX2_hasRoomForSaying_9 : decode cX2_hasRoomForSaying 9 = .ok (.iconst 1, 1) := by decide +kernel
theorem dX2_hasRoomForSaying_10 : decode cX2_hasRoomForSaying 10 = .ok (.goto 4, 3) := by decide +kernel
theorem dX2_hasRoomForSaying_13 : decode cX2_hasRoomForSaying 13 = .ok (.iconst 0, 1) := by decide +kernel
theorem dX2_hasRoomForSaying_14 : decode cX2_hasRoomForSaying 14 = .ok (.ireturn, 1) := by decide +kernel
theorem dX2_objectionToSaying_0 : decode cX2_objectionToSaying 0 = .ok (.aload_n 0, 1) := by decide +kernel
theorem dX2_objectionToSaying_1 : decode cX2_objectionToSaying 1 = .ok (.iload_n 1, 1) := by decide +kernel
theorem dX2_objectionToSaying_2 : decode cX2_objectionToSaying 2 = .ok (.invokevirtual 87, 3) := by decide +kernel
theorem dX2_objectionToSaying_5 : decode cX2_objectionToSaying 5 = .ok (.ifCond .eq 11, 3) := by decide +kernel
theorem dX2_objectionToSaying_8 : decode cX2_objectionToSaying 8 = .ok (.aload_n 0, 1) := by decide +kernel
theorem dX2_objectionToSaying_9 : decode cX2_objectionToSaying 9 = .ok (.iload_n 2, 1) := by decide +kernel
theorem dX2_objectionToSaying_10 : decode cX2_objectionToSaying 10 = .ok (.invokevirtual 87, 3) := by decide +kernel
theorem dX2_objectionToSaying_13 : decode cX2_objectionToSaying 13 = .ok (.ifCond .ne 6, 3) := by decide +kernel
theorem dX2_objectionToSaying_16 : decode cX2_objectionToSaying 16 = .ok (.ldc 91, 2) := by decide +kernel
theorem dX2_objectionToSaying_18 : decode cX2_objectionToSaying 18 = .ok (.ireturn, 1) := by decide +kernel
theorem dX2_objectionToSaying_19 : decode cX2_objectionToSaying 19 = .ok (.iload_n 1, 1) := by decide +kernel
theorem dX2_objectionToSaying_20 : decode cX2_objectionToSaying 20 = .ok (.iload_n 2, 1) := by decide +kernel
theorem dX2_objectionToSaying_21 : decode cX2_objectionToSaying 21 = .ok (.if_icmp .eq 12, 3) := by decide +kernel
theorem dX2_objectionToSaying_24 : decode cX2_objectionToSaying 24 = .ok (.aload_n 0, 1) := by decide +kernel
theorem dX2_objectionToSaying_25 : decode cX2_objectionToSaying 25 = .ok (.iload_n 1, 1) := by decide +kernel
theorem dX2_objectionToSaying_26 : decode cX2_objectionToSaying 26 = .ok (.iload_n 2, 1) := by decide +kernel
theorem dX2_objectionToSaying_27 : decode cX2_objectionToSaying 27 = .ok (.invokevirtual 92, 3) := by decide +kernel
theorem dX2_objectionToSaying_30 : decode cX2_objectionToSaying 30 = .ok (.ifCond .ne 6, 3) := by decide +kernel
theorem dX2_objectionToSaying_33 : decode cX2_objectionToSaying 33 = .ok (.ldc 96, 2) := by decide +kernel
theorem dX2_objectionToSaying_35 : decode cX2_objectionToSaying 35 = .ok (.ireturn, 1) := by decide +kernel
theorem dX2_objectionToSaying_36 : decode cX2_objectionToSaying 36 = .ok (.aload_n 0, 1) := by decide +kernel
theorem dX2_objectionToSaying_37 : decode cX2_objectionToSaying 37 = .ok (.invokevirtual 97, 3) := by decide +kernel
theorem dX2_objectionToSaying_40 : decode cX2_objectionToSaying 40 = .ok (.ifCond .eq 7, 3) := by decide +kernel
theorem dX2_objectionToSaying_43 : decode cX2_objectionToSaying 43 = .ok (.iconst 0, 1) := by decide +kernel
theorem dX2_objectionToSaying_44 : decode cX2_objectionToSaying 44 = .ok (.goto 5, 3) := by decide +kernel
theorem dX2_objectionToSaying_47 : decode cX2_objectionToSaying 47 = .ok (.ldc 101, 2) := by decide +kernel
theorem dX2_objectionToSaying_49 : decode cX2_objectionToSaying 49 = .ok (.ireturn, 1) := by decide +kernel
theorem dX2_addSaying_0 : decode cX2_addSaying 0 = .ok (.aload_n 0, 1) := by decide +kernel
theorem dX2_addSaying_1 : decode cX2_addSaying 1 = .ok (.getfield 27, 3) := by decide +kernel
theorem dX2_addSaying_4 : decode cX2_addSaying 4 = .ok (.aload_n 0, 1) := by decide +kernel
theorem dX2_addSaying_5 : decode cX2_addSaying 5 = .ok (.getfield 57, 3) := by decide +kernel
theorem dX2_addSaying_8 : decode cX2_addSaying 8 = .ok (.iload_n 1, 1) := by decide +kernel
theorem dX2_addSaying_9 : decode cX2_addSaying 9 = .ok (.iastore, 1) := by decide +kernel
theorem dX2_addSaying_10 : decode cX2_addSaying 10 = .ok (.aload_n 0, 1) := by decide +kernel
theorem dX2_addSaying_11 : decode cX2_addSaying 11 = .ok (.getfield 30, 3) := by decide +kernel
theorem dX2_addSaying_14 : decode cX2_addSaying 14 = .ok (.aload_n 0, 1) := by decide +kernel
theorem dX2_addSaying_15 : decode cX2_addSaying 15 = .ok (.getfield 57, 3) := by decide +kernel
theorem dX2_addSaying_18 : decode cX2_addSaying 18 = .ok (.iload_n 2, 1) := by decide +kernel
theorem dX2_addSaying_19 : decode cX2_addSaying 19 = .ok (.iastore, 1) := by decide +kernel
theorem dX2_addSaying_20 : decode cX2_addSaying 20 = .ok (.lconst 1, 1) := by decide +kernel
theorem dX2_addSaying_21 : decode cX2_addSaying 21 = .ok (.aload_n 0, 1) := by decide +kernel
theorem dX2_addSaying_22 : decode cX2_addSaying 22 = .ok (.getfield 57, 3) := by decide +kernel
theorem dX2_addSaying_25 : decode cX2_addSaying 25 = .ok (.lshl, 1) := by decide +kernel
theorem dX2_addSaying_26 : decode cX2_addSaying 26 = .ok (.lstore 4, 2) := by decide +kernel
theorem dX2_addSaying_28 : decode cX2_addSaying 28 = .ok (.aload_n 0, 1) := by decide +kernel
theorem dX2_addSaying_29 : decode cX2_addSaying 29 = .ok (.iload_n 3, 1) := by decide +kernel
theorem dX2_addSaying_30 : decode cX2_addSaying 30 = .ok (.ifCond .eq 13, 3) := by decide +kernel
theorem dX2_addSaying_33 : decode cX2_addSaying 33 = .ok (.aload_n 0, 1) := by decide +kernel
theorem dX2_addSaying_34 : decode cX2_addSaying 34 = .ok (.getfield 60, 3) := by decide +kernel
theorem dX2_addSaying_37 : decode cX2_addSaying 37 = .ok (.lload 4, 2) := by decide +kernel
theorem dX2_addSaying_39 : decode cX2_addSaying 39 = .ok (.lor, 1) := by decide +kernel
theorem dX2_addSaying_40 : decode cX2_addSaying 40 = .ok (.goto 14, 3) := by decide +kernel
theorem dX2_addSaying_43 : decode cX2_addSaying 43 = .ok (.aload_n 0, 1) := by decide +kernel
theorem dX2_addSaying_44 : decode cX2_addSaying 44 = .ok (.getfield 60, 3) := by decide +kernel
theorem dX2_addSaying_47 : decode cX2_addSaying 47 = .ok (.lload 4, 2) := by decide +kernel
theorem dX2_addSaying_49 : decode cX2_addSaying 49 = .ok (.ldc2_w 102, 3) := by decide +kernel
theorem dX2_addSaying_52 : decode cX2_addSaying 52 = .ok (.lxor, 1) := by decide +kernel
theorem dX2_addSaying_53 : decode cX2_addSaying 53 = .ok (.land, 1) := by decide +kernel
theorem dX2_addSaying_54 : decode cX2_addSaying 54 = .ok (.putfield 60, 3) := by decide +kernel
theorem dX2_addSaying_57 : decode cX2_addSaying 57 = .ok (.aload_n 0, 1) := by decide +kernel
theorem dX2_addSaying_58 : decode cX2_addSaying 58 = .ok (.dup, 1) := by decide +kernel
theorem dX2_addSaying_59 : decode cX2_addSaying 59 = .ok (.getfield 64, 3) := by decide +kernel
theorem dX2_addSaying_62 : decode cX2_addSaying 62 = .ok (.lload 4, 2) := by decide +kernel
theorem dX2_addSaying_64 : decode cX2_addSaying 64 = .ok (.lor, 1) := by decide +kernel
theorem dX2_addSaying_65 : decode cX2_addSaying 65 = .ok (.putfield 64, 3) := by decide +kernel
theorem dX2_addSaying_68 : decode cX2_addSaying 68 = .ok (.aload_n 0, 1) := by decide +kernel
theorem dX2_addSaying_69 : decode cX2_addSaying 69 = .ok (.dup, 1) := by decide +kernel
theorem dX2_addSaying_70 : decode cX2_addSaying 70 = .ok (.getfield 57, 3) := by decide +kernel
theorem dX2_addSaying_73 : decode cX2_addSaying 73 = .ok (.iconst 1, 1) := by decide +kernel
theorem dX2_addSaying_74 : decode cX2_addSaying 74 = .ok (.iadd, 1) := by decide +kernel
theorem dX2_addSaying_75 : decode cX2_addSaying 75 = .ok (.putfield 57, 3) := by decide +kernel
theorem dX2_addSaying_78 : decode cX2_addSaying 78 = .ok (.aload_n 0, 1) := by decide +kernel
theorem dX2_addSaying_79 : decode cX2_addSaying 79 = .ok (.iconst 1, 1) := by decide +kernel
theorem dX2_addSaying_80 : decode cX2_addSaying 80 = .ok (.putfield 44, 3) := by decide +kernel
theorem dX2_addSaying_83 : decode cX2_addSaying 83 = .ok (.aload_n 0, 1) := by decide +kernel
theorem dX2_addSaying_84 : decode cX2_addSaying 84 = .ok (.getfield 57, 3) := by decide +kernel
theorem dX2_addSaying_87 : decode cX2_addSaying 87 = .ok (.iconst 1, 1) := by decide +kernel
theorem dX2_addSaying_88 : decode cX2_addSaying 88 = .ok (.isub, 1) := by decide +kernel
theorem dX2_addSaying_89 : decode cX2_addSaying 89 = .ok (.ireturn, 1) := by decide +kernel
theorem dX2_hasSaying_0 : decode cX2_hasSaying 0 = .ok (.iload_n 1, 1) := by decide +kernel
theorem dX2_hasSaying_1 : decode cX2_hasSaying 1 = .ok (.ifCond .lt 15, 3) := by decide +kernel
theorem dX2_hasSaying_4 : decode cX2_hasSaying 4 = .ok (.iload_n 1, 1) := by decide +kernel
theorem dX2_hasSaying_5 : decode cX2_hasSaying 5 = .ok (.aload_n 0, 1) := by decide +kernel
theorem dX2_hasSaying_6 : decode cX2_hasSaying 6 = .ok (.getfield 57, 3) := by decide +kernel
theorem dX2_hasSaying_9 : decode cX2_hasSaying 9 = .ok (.if_icmp .ge 7, 3) := by decide +kernel
theorem dX2_hasSaying_12 : decode cX2_hasSaying 12 = .ok (.iconst 1, 1) := by decide +kernel
theorem dX2_hasSaying_13 : decode cX2_hasSaying 13 = .ok (.goto 4, 3) := by decide +kernel
theorem dX2_hasSaying_16 : decode cX2_hasSaying 16 = .ok (.iconst 0, 1) := by decide +kernel
theorem dX2_hasSaying_17 : decode cX2_hasSaying 17 = .ok (.ireturn, 1) := by decide +kernel
theorem dX2_saidWhole_0 : decode cX2_saidWhole 0 = .ok (.aload_n 0, 1) := by decide +kernel
theorem dX2_saidWhole_1 : decode cX2_saidWhole 1 = .ok (.getfield 60, 3) := by decide +kernel
theorem dX2_saidWhole_4 : decode cX2_saidWhole 4 = .ok (.iload_n 1, 1) := by decide +kernel
theorem dX2_saidWhole_5 : decode cX2_saidWhole 5 = .ok (.lshr, 1) := by decide +kernel
theorem dX2_saidWhole_6 : decode cX2_saidWhole 6 = .ok (.lconst 1, 1) := by decide +kernel
theorem dX2_saidWhole_7 : decode cX2_saidWhole 7 = .ok (.land, 1) := by decide +kernel
theorem dX2_saidWhole_8 : decode cX2_saidWhole 8 = .ok (.lconst 0, 1) := by decide +kernel
theorem dX2_saidWhole_9 : decode cX2_saidWhole 9 = .ok (.lcmp, 1) := by decide +kernel
theorem dX2_saidWhole_10 : decode cX2_saidWhole 10 = .ok (.ifCond .eq 7, 3) := by decide +kernel
theorem dX2_saidWhole_13 : decode cX2_saidWhole 13 = .ok (.iconst 1, 1) := by decide +kernel
theorem dX2_saidWhole_14 : decode cX2_saidWhole 14 = .ok (.goto 4, 3) := by decide +kernel
theorem dX2_saidWhole_17 : decode cX2_saidWhole 17 = .ok (.iconst 0, 1) := by decide +kernel
theorem dX2_saidWhole_18 : decode cX2_saidWhole 18 = .ok (.ireturn, 1) := by decide +kernel
theorem dX2_isValid_0 : decode cX2_isValid 0 = .ok (.aload_n 0, 1) := by decide +kernel
theorem dX2_isValid_1 : decode cX2_isValid 1 = .ok (.getfield 64, 3) := by decide +kernel
theorem dX2_isValid_4 : decode cX2_isValid 4 = .ok (.iload_n 1, 1) := by decide +kernel
theorem dX2_isValid_5 : decode cX2_isValid 5 = .ok (.lshr, 1) := by decide +kernel
theorem dX2_isValid_6 : decode cX2_isValid 6 = .ok (.lconst 1, 1) := by decide +kernel
theorem dX2_isValid_7 : decode cX2_isValid 7 = .ok (.land, 1) := by decide +kernel
theorem dX2_isValid_8 : decode cX2_isValid 8 = .ok (.lconst 0, 1) := by decide +kernel
theorem dX2_isValid_9 : decode cX2_isValid 9 = .ok (.lcmp, 1) := by decide +kernel
theorem dX2_isValid_10 : decode cX2_isValid 10 = .ok (.ifCond .eq 7, 3) := by decide +kernel
theorem dX2_isValid_13 : decode cX2_isValid 13 = .ok (.iconst 1, 1) := by decide +kernel
theorem dX2_isValid_14 : decode cX2_isValid 14 = .ok (.goto 4, 3) := by decide +kernel
theorem dX2_isValid_17 : decode cX2_isValid 17 = .ok (.iconst 0, 1) := by decide +kernel
theorem dX2_isValid_18 : decode cX2_isValid 18 = .ok (.ireturn, 1) := by decide +kernel
theorem dX2_silence_0 : decode cX2_silence 0 = .ok (.aload_n 0, 1) := by decide +kernel
theorem dX2_silence_1 : decode cX2_silence 1 = .ok (.dup, 1) := by decide +kernel
theorem dX2_silence_2 : decode cX2_silence 2 = .ok (.getfield 64, 3) := by decide +kernel
theorem dX2_silence_5 : decode cX2_silence 5 = .ok (.lconst 1, 1) := by decide +kernel
theorem dX2_silence_6 : decode cX2_silence 6 = .ok (.iload_n 1, 1) := by decide +kernel
theorem dX2_silence_7 : decode cX2_silence 7 = .ok (.lshl, 1) := by decide +kernel
theorem dX2_silence_8 : decode cX2_silence 8 = .ok (.ldc2_w 102, 3) := by decide +kernel
theorem dX2_silence_11 : decode cX2_silence 11 = .ok (.lxor, 1) := by decide +kernel
theorem dX2_silence_12 : decode cX2_silence 12 = .ok (.land, 1) := by decide +kernel
theorem dX2_silence_13 : decode cX2_silence 13 = .ok (.putfield 64, 3) := by decide +kernel
theorem dX2_silence_16 : decode cX2_silence 16 = .ok (.aload_n 0, 1) := by decide +kernel
theorem dX2_silence_17 : decode cX2_silence 17 = .ok (.iconst 1, 1) := by decide +kernel
theorem dX2_silence_18 : decode cX2_silence 18 = .ok (.putfield 44, 3) := by decide +kernel
theorem dX2_silence_21 : decode cX2_silence 21 = .ok (.return_, 1) := by decide +kernel
theorem dX2_silenceAllAbout_0 : decode cX2_silenceAllAbout 0 = .ok (.iconst 0, 1) := by decide +kernel
theorem dX2_silenceAllAbout_1 : decode cX2_silenceAllAbout 1 = .ok (.istore_n 2, 1) := by decide +kernel
theorem dX2_silenceAllAbout_2 : decode cX2_silenceAllAbout 2 = .ok (.iconst 0, 1) := by decide +kernel
theorem dX2_silenceAllAbout_3 : decode cX2_silenceAllAbout 3 = .ok (.istore_n 3, 1) := by decide +kernel
theorem dX2_silenceAllAbout_4 : decode cX2_silenceAllAbout 4 = .ok (.iload_n 3, 1) := by decide +kernel
theorem dX2_silenceAllAbout_5 : decode cX2_silenceAllAbout 5 = .ok (.aload_n 0, 1) := by decide +kernel
theorem dX2_silenceAllAbout_6 : decode cX2_silenceAllAbout 6 = .ok (.getfield 57, 3) := by decide +kernel
theorem dX2_silenceAllAbout_9 : decode cX2_silenceAllAbout 9 = .ok (.if_icmp .ge 45, 3) := by decide +kernel
theorem dX2_silenceAllAbout_12 : decode cX2_silenceAllAbout 12 = .ok (.aload_n 0, 1) := by decide +kernel
theorem dX2_silenceAllAbout_13 : decode cX2_silenceAllAbout 13 = .ok (.iload_n 3, 1) := by decide +kernel
theorem dX2_silenceAllAbout_14 : decode cX2_silenceAllAbout 14 = .ok (.invokevirtual 104, 3) := by decide +kernel
theorem dX2_silenceAllAbout_17 : decode cX2_silenceAllAbout 17 = .ok (.ifCond .eq 31, 3) := by decide +kernel
theorem dX2_silenceAllAbout_20 : decode cX2_silenceAllAbout 20 = .ok (.aload_n 0, 1) := by decide +kernel
theorem dX2_silenceAllAbout_21 : decode cX2_silenceAllAbout 21 = .ok (.getfield 27, 3) := by decide +kernel
theorem dX2_silenceAllAbout_24 : decode cX2_silenceAllAbout 24 = .ok (.iload_n 3, 1) := by decide +kernel
theorem dX2_silenceAllAbout_25 : decode cX2_silenceAllAbout 25 = .ok (.iaload, 1) := by decide +kernel
theorem dX2_silenceAllAbout_26 : decode cX2_silenceAllAbout 26 = .ok (.iload_n 1, 1) := by decide +kernel
theorem dX2_silenceAllAbout_27 : decode cX2_silenceAllAbout 27 = .ok (.if_icmp .eq 13, 3) := by decide +kernel
theorem dX2_silenceAllAbout_30 : decode cX2_silenceAllAbout 30 = .ok (.aload_n 0, 1) := by decide +kernel
theorem dX2_silenceAllAbout_31 : decode cX2_silenceAllAbout 31 = .ok (.getfield 30, 3) := by decide +kernel
theorem dX2_silenceAllAbout_34 : decode cX2_silenceAllAbout 34 = .ok (.iload_n 3, 1) := by decide +kernel
theorem dX2_silenceAllAbout_35 : decode cX2_silenceAllAbout 35 = .ok (.iaload, 1) := by decide +kernel
theorem dX2_silenceAllAbout_36 : decode cX2_silenceAllAbout 36 = .ok (.iload_n 1, 1) := by decide +kernel
theorem dX2_silenceAllAbout_37 : decode cX2_silenceAllAbout 37 = .ok (.if_icmp .ne 11, 3) := by decide +kernel
theorem dX2_silenceAllAbout_40 : decode cX2_silenceAllAbout 40 = .ok (.aload_n 0, 1) := by decide +kernel
theorem dX2_silenceAllAbout_41 : decode cX2_silenceAllAbout 41 = .ok (.iload_n 3, 1) := by decide +kernel
theorem dX2_silenceAllAbout_42 : decode cX2_silenceAllAbout 42 = .ok (.invokevirtual 107, 3) := by decide +kernel
theorem dX2_silenceAllAbout_45 : decode cX2_silenceAllAbout 45 = .ok (.iinc 2 1, 3) := by decide +kernel
theorem dX2_silenceAllAbout_48 : decode cX2_silenceAllAbout 48 = .ok (.iinc 3 1, 3) := by decide +kernel
theorem dX2_silenceAllAbout_51 : decode cX2_silenceAllAbout 51 = .ok (.goto (-47), 3) := by decide +kernel
theorem dX2_silenceAllAbout_54 : decode cX2_silenceAllAbout 54 = .ok (.iload_n 2, 1) := by decide +kernel
theorem dX2_silenceAllAbout_55 : decode cX2_silenceAllAbout 55 = .ok (.ireturn, 1) := by decide +kernel
theorem dX2_validSayings_0 : decode cX2_validSayings 0 = .ok (.aload_n 0, 1) := by decide +kernel
theorem dX2_validSayings_1 : decode cX2_validSayings 1 = .ok (.getfield 64, 3) := by decide +kernel
theorem dX2_validSayings_4 : decode cX2_validSayings 4 = .ok (.invokestatic 111, 3) := by decide +kernel
theorem dX2_validSayings_7 : decode cX2_validSayings 7 = .ok (.ireturn, 1) := by decide +kernel
theorem dX2_sayingsBy_0 : decode cX2_sayingsBy 0 = .ok (.iconst 0, 1) := by decide +kernel
theorem dX2_sayingsBy_1 : decode cX2_sayingsBy 1 = .ok (.istore_n 2, 1) := by decide +kernel
theorem dX2_sayingsBy_2 : decode cX2_sayingsBy 2 = .ok (.iconst 0, 1) := by decide +kernel
theorem dX2_sayingsBy_3 : decode cX2_sayingsBy 3 = .ok (.istore_n 3, 1) := by decide +kernel
theorem dX2_sayingsBy_4 : decode cX2_sayingsBy 4 = .ok (.iload_n 3, 1) := by decide +kernel
theorem dX2_sayingsBy_5 : decode cX2_sayingsBy 5 = .ok (.aload_n 0, 1) := by decide +kernel
theorem dX2_sayingsBy_6 : decode cX2_sayingsBy 6 = .ok (.getfield 57, 3) := by decide +kernel
theorem dX2_sayingsBy_9 : decode cX2_sayingsBy 9 = .ok (.if_icmp .ge 30, 3) := by decide +kernel
theorem dX2_sayingsBy_12 : decode cX2_sayingsBy 12 = .ok (.aload_n 0, 1) := by decide +kernel
theorem dX2_sayingsBy_13 : decode cX2_sayingsBy 13 = .ok (.iload_n 3, 1) := by decide +kernel
theorem dX2_sayingsBy_14 : decode cX2_sayingsBy 14 = .ok (.invokevirtual 104, 3) := by decide +kernel
theorem dX2_sayingsBy_17 : decode cX2_sayingsBy 17 = .ok (.ifCond .eq 16, 3) := by decide +kernel
theorem dX2_sayingsBy_20 : decode cX2_sayingsBy 20 = .ok (.aload_n 0, 1) := by decide +kernel
theorem dX2_sayingsBy_21 : decode cX2_sayingsBy 21 = .ok (.getfield 27, 3) := by decide +kernel
theorem dX2_sayingsBy_24 : decode cX2_sayingsBy 24 = .ok (.iload_n 3, 1) := by decide +kernel
theorem dX2_sayingsBy_25 : decode cX2_sayingsBy 25 = .ok (.iaload, 1) := by decide +kernel
theorem dX2_sayingsBy_26 : decode cX2_sayingsBy 26 = .ok (.iload_n 1, 1) := by decide +kernel
theorem dX2_sayingsBy_27 : decode cX2_sayingsBy 27 = .ok (.if_icmp .ne 6, 3) := by decide +kernel
theorem dX2_sayingsBy_30 : decode cX2_sayingsBy 30 = .ok (.iinc 2 1, 3) := by decide +kernel
theorem dX2_sayingsBy_33 : decode cX2_sayingsBy 33 = .ok (.iinc 3 1, 3) := by decide +kernel
theorem dX2_sayingsBy_36 : decode cX2_sayingsBy 36 = .ok (.goto (-32), 3) := by decide +kernel
theorem dX2_sayingsBy_39 : decode cX2_sayingsBy 39 = .ok (.iload_n 2, 1) := by decide +kernel
theorem dX2_sayingsBy_40 : decode cX2_sayingsBy 40 = .ok (.ireturn, 1) := by decide +kernel
theorem dX2_sayingsOf_0 : decode cX2_sayingsOf 0 = .ok (.iconst 0, 1) := by decide +kernel
theorem dX2_sayingsOf_1 : decode cX2_sayingsOf 1 = .ok (.istore_n 2, 1) := by decide +kernel
theorem dX2_sayingsOf_2 : decode cX2_sayingsOf 2 = .ok (.iconst 0, 1) := by decide +kernel
theorem dX2_sayingsOf_3 : decode cX2_sayingsOf 3 = .ok (.istore_n 3, 1) := by decide +kernel
theorem dX2_sayingsOf_4 : decode cX2_sayingsOf 4 = .ok (.iload_n 3, 1) := by decide +kernel
theorem dX2_sayingsOf_5 : decode cX2_sayingsOf 5 = .ok (.aload_n 0, 1) := by decide +kernel
theorem dX2_sayingsOf_6 : decode cX2_sayingsOf 6 = .ok (.getfield 57, 3) := by decide +kernel
theorem dX2_sayingsOf_9 : decode cX2_sayingsOf 9 = .ok (.if_icmp .ge 30, 3) := by decide +kernel
theorem dX2_sayingsOf_12 : decode cX2_sayingsOf 12 = .ok (.aload_n 0, 1) := by decide +kernel
theorem dX2_sayingsOf_13 : decode cX2_sayingsOf 13 = .ok (.iload_n 3, 1) := by decide +kernel
theorem dX2_sayingsOf_14 : decode cX2_sayingsOf 14 = .ok (.invokevirtual 104, 3) := by decide +kernel
theorem dX2_sayingsOf_17 : decode cX2_sayingsOf 17 = .ok (.ifCond .eq 16, 3) := by decide +kernel
theorem dX2_sayingsOf_20 : decode cX2_sayingsOf 20 = .ok (.aload_n 0, 1) := by decide +kernel
theorem dX2_sayingsOf_21 : decode cX2_sayingsOf 21 = .ok (.getfield 30, 3) := by decide +kernel
theorem dX2_sayingsOf_24 : decode cX2_sayingsOf 24 = .ok (.iload_n 3, 1) := by decide +kernel
theorem dX2_sayingsOf_25 : decode cX2_sayingsOf 25 = .ok (.iaload, 1) := by decide +kernel
theorem dX2_sayingsOf_26 : decode cX2_sayingsOf 26 = .ok (.iload_n 1, 1) := by decide +kernel
theorem dX2_sayingsOf_27 : decode cX2_sayingsOf 27 = .ok (.if_icmp .ne 6, 3) := by decide +kernel
theorem dX2_sayingsOf_30 : decode cX2_sayingsOf 30 = .ok (.iinc 2 1, 3) := by decide +kernel
theorem dX2_sayingsOf_33 : decode cX2_sayingsOf 33 = .ok (.iinc 3 1, 3) := by decide +kernel
theorem dX2_sayingsOf_36 : decode cX2_sayingsOf 36 = .ok (.goto (-32), 3) := by decide +kernel
theorem dX2_sayingsOf_39 : decode cX2_sayingsOf 39 = .ok (.iload_n 2, 1) := by decide +kernel
theorem dX2_sayingsOf_40 : decode cX2_sayingsOf 40 = .ok (.ireturn, 1) := by decide +kernel
theorem dX2_firstNotLet_0 : decode cX2_firstNotLet 0 = .ok (.iconst 0, 1) := by decide +kernel
theorem dX2_firstNotLet_1 : decode cX2_firstNotLet 1 = .ok (.istore_n 2, 1) := by decide +kernel
theorem dX2_firstNotLet_2 : decode cX2_firstNotLet 2 = .ok (.iload_n 2, 1) := by decide +kernel
theorem dX2_firstNotLet_3 : decode cX2_firstNotLet 3 = .ok (.aload_n 0, 1) := by decide +kernel
theorem dX2_firstNotLet_4 : decode cX2_firstNotLet 4 = .ok (.getfield 57, 3) := by decide +kernel
theorem dX2_firstNotLet_7 : decode cX2_firstNotLet 7 = .ok (.if_icmp .ge 59, 3) := by decide +kernel
theorem dX2_firstNotLet_10 : decode cX2_firstNotLet 10 = .ok (.aload_n 0, 1) := by decide +kernel
theorem dX2_firstNotLet_11 : decode cX2_firstNotLet 11 = .ok (.iload_n 2, 1) := by decide +kernel
theorem dX2_firstNotLet_12 : decode cX2_firstNotLet 12 = .ok (.invokevirtual 104, 3) := by decide +kernel
theorem dX2_firstNotLet_15 : decode cX2_firstNotLet 15 = .ok (.ifCond .eq 45, 3) := by decide +kernel
theorem dX2_firstNotLet_18 : decode cX2_firstNotLet 18 = .ok (.aload_n 0, 1) := by decide +kernel
theorem dX2_firstNotLet_19 : decode cX2_firstNotLet 19 = .ok (.getfield 9, 3) := by decide +kernel
theorem dX2_firstNotLet_22 : decode cX2_firstNotLet 22 = .ok (.aload_n 0, 1) := by decide +kernel
theorem dX2_firstNotLet_23 : decode cX2_firstNotLet 23 = .ok (.getfield 27, 3) := by decide +kernel
theorem dX2_firstNotLet_26 : decode cX2_firstNotLet 26 = .ok (.iload_n 2, 1) := by decide +kernel
theorem dX2_firstNotLet_27 : decode cX2_firstNotLet 27 = .ok (.iaload, 1) := by decide +kernel
theorem dX2_firstNotLet_28 : decode cX2_firstNotLet 28 = .ok (.iaload, 1) := by decide +kernel
theorem dX2_firstNotLet_29 : decode cX2_firstNotLet 29 = .ok (.aload_n 0, 1) := by decide +kernel
theorem dX2_firstNotLet_30 : decode cX2_firstNotLet 30 = .ok (.iload_n 2, 1) := by decide +kernel
theorem dX2_firstNotLet_31 : decode cX2_firstNotLet 31 = .ok (.invokevirtual 116, 3) := by decide +kernel
theorem dX2_firstNotLet_34 : decode cX2_firstNotLet 34 = .ok (.invokestatic 119, 3) := by decide +kernel
theorem dX2_firstNotLet_37 : decode cX2_firstNotLet 37 = .ok (.istore_n 3, 1) := by decide +kernel
theorem dX2_firstNotLet_38 : decode cX2_firstNotLet 38 = .ok (.iload_n 3, 1) := by decide +kernel
theorem dX2_firstNotLet_39 : decode cX2_firstNotLet 39 = .ok (.iload_n 1, 1) := by decide +kernel
theorem dX2_firstNotLet_40 : decode cX2_firstNotLet 40 = .ok (.aload_n 0, 1) := by decide +kernel
theorem dX2_firstNotLet_41 : decode cX2_firstNotLet 41 = .ok (.getfield 27, 3) := by decide +kernel
theorem dX2_firstNotLet_44 : decode cX2_firstNotLet 44 = .ok (.iload_n 2, 1) := by decide +kernel
theorem dX2_firstNotLet_45 : decode cX2_firstNotLet 45 = .ok (.iaload, 1) := by decide +kernel
theorem dX2_firstNotLet_46 : decode cX2_firstNotLet 46 = .ok (.aload_n 0, 1) := by decide +kernel
theorem dX2_firstNotLet_47 : decode cX2_firstNotLet 47 = .ok (.getfield 30, 3) := by decide +kernel
theorem dX2_firstNotLet_50 : decode cX2_firstNotLet 50 = .ok (.iload_n 2, 1) := by decide +kernel
theorem dX2_firstNotLet_51 : decode cX2_firstNotLet 51 = .ok (.iaload, 1) := by decide +kernel
theorem dX2_firstNotLet_52 : decode cX2_firstNotLet 52 = .ok (.invokestatic 125, 3) := by decide +kernel
theorem dX2_firstNotLet_55 : decode cX2_firstNotLet 55 = .ok (.ifCond .ne 5, 3) := by decide +kernel
theorem dX2_firstNotLet_58 : decode cX2_firstNotLet 58 = .ok (.iload_n 2, 1) := by decide +kernel
theorem dX2_firstNotLet_59 : decode cX2_firstNotLet 59 = .ok (.ireturn, 1) := by decide +kernel
theorem dX2_firstNotLet_60 : decode cX2_firstNotLet 60 = .ok (.iinc 2 1, 3) := by decide +kernel
theorem dX2_firstNotLet_63 : decode cX2_firstNotLet 63 = .ok (.goto (-61), 3) := by decide +kernel
theorem dX2_firstNotLet_66 : decode cX2_firstNotLet 66 = .ok (.iconst (-1), 1) := by decide +kernel
theorem dX2_firstNotLet_67 : decode cX2_firstNotLet 67 = .ok (.ireturn, 1) := by decide +kernel
theorem dX2_ledFrom_0 : decode cX2_ledFrom 0 = .ok (.iconst 1, 1) := by decide +kernel
theorem dX2_ledFrom_1 : decode cX2_ledFrom 1 = .ok (.iload_n 1, 1) := by decide +kernel
theorem dX2_ledFrom_2 : decode cX2_ledFrom 2 = .ok (.ishl, 1) := by decide +kernel
theorem dX2_ledFrom_3 : decode cX2_ledFrom 3 = .ok (.istore_n 2, 1) := by decide +kernel
theorem dX2_ledFrom_4 : decode cX2_ledFrom 4 = .ok (.iconst 0, 1) := by decide +kernel
theorem dX2_ledFrom_5 : decode cX2_ledFrom 5 = .ok (.istore_n 3, 1) := by decide +kernel
theorem dX2_ledFrom_6 : decode cX2_ledFrom 6 = .ok (.iload_n 3, 1) := by decide +kernel
theorem dX2_ledFrom_7 : decode cX2_ledFrom 7 = .ok (.aload_n 0, 1) := by decide +kernel
theorem dX2_ledFrom_8 : decode cX2_ledFrom 8 = .ok (.getfield 48, 3) := by decide +kernel
theorem dX2_ledFrom_11 : decode cX2_ledFrom 11 = .ok (.if_icmp .ge 101, 3) := by decide +kernel
theorem dX2_ledFrom_14 : decode cX2_ledFrom 14 = .ok (.iconst 0, 1) := by decide +kernel
theorem dX2_ledFrom_15 : decode cX2_ledFrom 15 = .ok (.istore 4, 2) := by decide +kernel
theorem dX2_ledFrom_17 : decode cX2_ledFrom 17 = .ok (.iload 4, 2) := by decide +kernel
theorem dX2_ledFrom_19 : decode cX2_ledFrom 19 = .ok (.aload_n 0, 1) := by decide +kernel
theorem dX2_ledFrom_20 : decode cX2_ledFrom 20 = .ok (.getfield 57, 3) := by decide +kernel
theorem dX2_ledFrom_23 : decode cX2_ledFrom 23 = .ok (.if_icmp .ge 83, 3) := by decide +kernel
theorem dX2_ledFrom_26 : decode cX2_ledFrom 26 = .ok (.aload_n 0, 1) := by decide +kernel
theorem dX2_ledFrom_27 : decode cX2_ledFrom 27 = .ok (.iload 4, 2) := by decide +kernel
theorem dX2_ledFrom_29 : decode cX2_ledFrom 29 = .ok (.invokevirtual 104, 3) := by decide +kernel
theorem dX2_ledFrom_32 : decode cX2_ledFrom 32 = .ok (.ifCond .eq 34, 3) := by decide +kernel
theorem dX2_ledFrom_35 : decode cX2_ledFrom 35 = .ok (.aload_n 0, 1) := by decide +kernel
theorem dX2_ledFrom_36 : decode cX2_ledFrom 36 = .ok (.iload 4, 2) := by decide +kernel
theorem dX2_ledFrom_38 : decode cX2_ledFrom 38 = .ok (.invokevirtual 116, 3) := by decide +kernel
theorem dX2_ledFrom_41 : decode cX2_ledFrom 41 = .ok (.ifCond .eq 25, 3) := by decide +kernel
theorem dX2_ledFrom_44 : decode cX2_ledFrom 44 = .ok (.aload_n 0, 1) := by decide +kernel
theorem dX2_ledFrom_45 : decode cX2_ledFrom 45 = .ok (.getfield 9, 3) := by decide +kernel
theorem dX2_ledFrom_48 : decode cX2_ledFrom 48 = .ok (.aload_n 0, 1) := by decide +kernel
theorem dX2_ledFrom_49 : decode cX2_ledFrom 49 = .ok (.getfield 27, 3) := by decide +kernel
theorem dX2_ledFrom_52 : decode cX2_ledFrom 52 = .ok (.iload 4, 2) := by decide +kernel
theorem dX2_ledFrom_54 : decode cX2_ledFrom 54 = .ok (.iaload, 1) := by decide +kernel
theorem dX2_ledFrom_55 : decode cX2_ledFrom 55 = .ok (.iaload, 1) := by decide +kernel
theorem dX2_ledFrom_56 : decode cX2_ledFrom 56 = .ok (.invokestatic 129, 3) := by decide +kernel
theorem dX2_ledFrom_59 : decode cX2_ledFrom 59 = .ok (.ifCond .eq 7, 3) := by decide +kernel
theorem dX2_ledFrom_62 : decode cX2_ledFrom 62 = .ok (.iconst 1, 1) := by decide +kernel
theorem dX2_ledFrom_63 : decode cX2_ledFrom 63 = .ok (.goto 4, 3) := by decide +kernel
theorem dX2_ledFrom_66 : decode cX2_ledFrom 66 = .ok (.iconst 0, 1) := by decide +kernel
theorem dX2_ledFrom_67 : decode cX2_ledFrom 67 = .ok (.istore 5, 2) := by decide +kernel
theorem dX2_ledFrom_69 : decode cX2_ledFrom 69 = .ok (.iload 5, 2) := by decide +kernel
theorem dX2_ledFrom_71 : decode cX2_ledFrom 71 = .ok (.ifCond .eq 29, 3) := by decide +kernel
theorem dX2_ledFrom_74 : decode cX2_ledFrom 74 = .ok (.iload_n 2, 1) := by decide +kernel
theorem dX2_ledFrom_75 : decode cX2_ledFrom 75 = .ok (.aload_n 0, 1) := by decide +kernel
theorem dX2_ledFrom_76 : decode cX2_ledFrom 76 = .ok (.getfield 27, 3) := by decide +kernel
theorem dX2_ledFrom_79 : decode cX2_ledFrom 79 = .ok (.iload 4, 2) := by decide +kernel
theorem dX2_ledFrom_81 : decode cX2_ledFrom 81 = .ok (.iaload, 1) := by decide +kernel
theorem dX2_ledFrom_82 : decode cX2_ledFrom 82 = .ok (.ishr, 1) := by decide +kernel
theorem dX2_ledFrom_83 : decode cX2_ledFrom 83 = .ok (.iconst 1, 1) := by decide +kernel
theorem dX2_ledFrom_84 : decode cX2_ledFrom 84 = .ok (.iand, 1) := by decide +kernel
theorem dX2_ledFrom_85 : decode cX2_ledFrom 85 = .ok (.ifCond .eq 15, 3) := by decide +kernel
theorem dX2_ledFrom_88 : decode cX2_ledFrom 88 = .ok (.iload_n 2, 1) := by decide +kernel
theorem dX2_ledFrom_89 : decode cX2_ledFrom 89 = .ok (.iconst 1, 1) := by decide +kernel
theorem dX2_ledFrom_90 : decode cX2_ledFrom 90 = .ok (.aload_n 0, 1) := by decide +kernel
theorem dX2_ledFrom_91 : decode cX2_ledFrom 91 = .ok (.getfield 30, 3) := by decide +kernel
theorem dX2_ledFrom_94 : decode cX2_ledFrom 94 = .ok (.iload 4, 2) := by decide +kernel
theorem dX2_ledFrom_96 : decode cX2_ledFrom 96 = .ok (.iaload, 1) := by decide +kernel
theorem dX2_ledFrom_97 : decode cX2_ledFrom 97 = .ok (.ishl, 1) := by decide +kernel
theorem dX2_ledFrom_98 : decode cX2_ledFrom 98 = .ok (.ior, 1) := by decide +kernel
theorem dX2_ledFrom_99 : decode cX2_ledFrom 99 = .ok (.istore_n 2, 1) := by decide +kernel
theorem dX2_ledFrom_100 : decode cX2_ledFrom 100 = .ok (.iinc 4 1, 3) := by decide +kernel
theorem dX2_ledFrom_103 : decode cX2_ledFrom 103 = .ok (.goto (-86), 3) := by decide +kernel
theorem dX2_ledFrom_106 : decode cX2_ledFrom 106 = .ok (.iinc 3 1, 3) := by decide +kernel
theorem dX2_ledFrom_109 : decode cX2_ledFrom 109 = .ok (.goto (-103), 3) := by decide +kernel
theorem dX2_ledFrom_112 : decode cX2_ledFrom 112 = .ok (.iload_n 2, 1) := by decide +kernel
theorem dX2_ledFrom_113 : decode cX2_ledFrom 113 = .ok (.ireturn, 1) := by decide +kernel
theorem dX2_setMost_0 : decode cX2_setMost 0 = .ok (.aload_n 0, 1) := by decide +kernel
theorem dX2_setMost_1 : decode cX2_setMost 1 = .ok (.getfield 33, 3) := by decide +kernel
theorem dX2_setMost_4 : decode cX2_setMost 4 = .ok (.istore_n 2, 1) := by decide +kernel
theorem dX2_setMost_5 : decode cX2_setMost 5 = .ok (.aload_n 0, 1) := by decide +kernel
theorem dX2_setMost_6 : decode cX2_setMost 6 = .ok (.iload_n 1, 1) := by decide +kernel
theorem dX2_setMost_7 : decode cX2_setMost 7 = .ok (.putfield 33, 3) := by decide +kernel
theorem dX2_setMost_10 : decode cX2_setMost 10 = .ok (.aload_n 0, 1) := by decide +kernel
theorem dX2_setMost_11 : decode cX2_setMost 11 = .ok (.iconst 1, 1) := by decide +kernel
theorem dX2_setMost_12 : decode cX2_setMost 12 = .ok (.putfield 44, 3) := by decide +kernel
theorem dX2_setMost_15 : decode cX2_setMost 15 = .ok (.iload_n 2, 1) := by decide +kernel
theorem dX2_setMost_16 : decode cX2_setMost 16 = .ok (.ireturn, 1) := by decide +kernel
theorem dX2_addToTape_0 : decode cX2_addToTape 0 = .ok (.iconst 0, 1) := by decide +kernel
theorem dX2_addToTape_1 : decode cX2_addToTape 1 = .ok (.istore 4, 2) := by decide +kernel
theorem dX2_addToTape_3 : decode cX2_addToTape 3 = .ok (.iload 4, 2) := by decide +kernel
theorem dX2_addToTape_5 : decode cX2_addToTape 5 = .ok (.iload_n 3, 1) := by decide +kernel
theorem dX2_addToTape_6 : decode cX2_addToTape 6 = .ok (.if_icmp .ge 37, 3) := by decide +kernel
theorem dX2_addToTape_9 : decode cX2_addToTape 9 = .ok (.aload_n 0, 1) := by decide +kernel
theorem dX2_addToTape_10 : decode cX2_addToTape 10 = .ok (.getfield 37, 3) := by decide +kernel
theorem dX2_addToTape_13 : decode cX2_addToTape 13 = .ok (.aload_n 0, 1) := by decide +kernel
theorem dX2_addToTape_14 : decode cX2_addToTape 14 = .ok (.getfield 67, 3) := by decide +kernel
theorem dX2_addToTape_17 : decode cX2_addToTape 17 = .ok (.lload_n 1, 1) := by decide +kernel
theorem dX2_addToTape_18 : decode cX2_addToTape 18 = .ok (.bipush 8, 2) := by decide +kernel
theorem dX2_addToTape_20 : decode cX2_addToTape 20 = .ok (.iload 4, 2) := by decide +kernel
theorem dX2_addToTape_22 : decode cX2_addToTape 22 = .ok (.imul, 1) := by decide +kernel
theorem dX2_addToTape_23 : decode cX2_addToTape 23 = .ok (.lshr, 1) := by decide +kernel
theorem dX2_addToTape_24 : decode cX2_addToTape 24 = .ok (.l2i, 1) := by decide +kernel
theorem dX2_addToTape_25 : decode cX2_addToTape 25 = .ok (.i2b, 1) := by decide +kernel
theorem dX2_addToTape_26 : decode cX2_addToTape 26 = .ok (.bastore, 1) := by decide +kernel
theorem dX2_addToTape_27 : decode cX2_addToTape 27 = .ok (.aload_n 0, 1) := by decide +kernel
theorem dX2_addToTape_28 : decode cX2_addToTape 28 = .ok (.dup, 1) := by decide +kernel
theorem dX2_addToTape_29 : decode cX2_addToTape 29 = .ok (.getfield 67, 3) := by decide +kernel
theorem dX2_addToTape_32 : decode cX2_addToTape 32 = .ok (.iconst 1, 1) := by decide +kernel
theorem dX2_addToTape_33 : decode cX2_addToTape 33 = .ok (.iadd, 1) := by decide +kernel
theorem dX2_addToTape_34 : decode cX2_addToTape 34 = .ok (.putfield 67, 3) := by decide +kernel
theorem dX2_addToTape_37 : decode cX2_addToTape 37 = .ok (.iinc 4 1, 3) := by decide +kernel
theorem dX2_addToTape_40 : decode cX2_addToTape 40 = .ok (.goto (-37), 3) := by decide +kernel
theorem dX2_addToTape_43 : decode cX2_addToTape 43 = .ok (.aload_n 0, 1) := by decide +kernel
theorem dX2_addToTape_44 : decode cX2_addToTape 44 = .ok (.getfield 67, 3) := by decide +kernel
theorem dX2_addToTape_47 : decode cX2_addToTape 47 = .ok (.ireturn, 1) := by decide +kernel
theorem dX2_addWaiting_0 : decode cX2_addWaiting 0 = .ok (.aload_n 0, 1) := by decide +kernel
theorem dX2_addWaiting_1 : decode cX2_addWaiting 1 = .ok (.getfield 41, 3) := by decide +kernel
theorem dX2_addWaiting_4 : decode cX2_addWaiting 4 = .ok (.aload_n 0, 1) := by decide +kernel
theorem dX2_addWaiting_5 : decode cX2_addWaiting 5 = .ok (.getfield 70, 3) := by decide +kernel
theorem dX2_addWaiting_8 : decode cX2_addWaiting 8 = .ok (.iload_n 1, 1) := by decide +kernel
theorem dX2_addWaiting_9 : decode cX2_addWaiting 9 = .ok (.iastore, 1) := by decide +kernel
theorem dX2_addWaiting_10 : decode cX2_addWaiting 10 = .ok (.aload_n 0, 1) := by decide +kernel
theorem dX2_addWaiting_11 : decode cX2_addWaiting 11 = .ok (.dup, 1) := by decide +kernel
theorem dX2_addWaiting_12 : decode cX2_addWaiting 12 = .ok (.getfield 70, 3) := by decide +kernel
theorem dX2_addWaiting_15 : decode cX2_addWaiting 15 = .ok (.iconst 1, 1) := by decide +kernel
theorem dX2_addWaiting_16 : decode cX2_addWaiting 16 = .ok (.iadd, 1) := by decide +kernel
theorem dX2_addWaiting_17 : decode cX2_addWaiting 17 = .ok (.putfield 70, 3) := by decide +kernel
theorem dX2_addWaiting_20 : decode cX2_addWaiting 20 = .ok (.aload_n 0, 1) := by decide +kernel
theorem dX2_addWaiting_21 : decode cX2_addWaiting 21 = .ok (.getfield 70, 3) := by decide +kernel
theorem dX2_addWaiting_24 : decode cX2_addWaiting 24 = .ok (.ireturn, 1) := by decide +kernel
theorem dX3_isOrIsUnder_0 : decode cX3_isOrIsUnder 0 = .ok (.iload_n 0, 1) := by decide +kernel
theorem dX3_isOrIsUnder_1 : decode cX3_isOrIsUnder 1 = .ok (.istore_n 2, 1) := by decide +kernel
theorem dX3_isOrIsUnder_2 : decode cX3_isOrIsUnder 2 = .ok (.iconst 0, 1) := by decide +kernel
theorem dX3_isOrIsUnder_3 : decode cX3_isOrIsUnder 3 = .ok (.istore_n 3, 1) := by decide +kernel
theorem dX3_isOrIsUnder_4 : decode cX3_isOrIsUnder 4 = .ok (.iload_n 3, 1) := by decide +kernel
theorem dX3_isOrIsUnder_5 : decode cX3_isOrIsUnder 5 = .ok (.getstatic 9, 3) := by decide +kernel
theorem dX3_isOrIsUnder_8 : decode cX3_isOrIsUnder 8 = .ok (.arraylength, 1) := by decide +kernel
theorem dX3_isOrIsUnder_9 : decode cX3_isOrIsUnder 9 = .ok (.if_icmp .ge 26, 3) := by decide +kernel
theorem dX3_isOrIsUnder_12 : decode cX3_isOrIsUnder 12 = .ok (.iload_n 2, 1) := by decide +kernel
theorem dX3_isOrIsUnder_13 : decode cX3_isOrIsUnder 13 = .ok (.ifCond .lt 22, 3) := by decide +kernel
theorem dX3_isOrIsUnder_16 : decode cX3_isOrIsUnder 16 = .ok (.iload_n 2, 1) := by decide +kernel
theorem dX3_isOrIsUnder_17 : decode cX3_isOrIsUnder 17 = .ok (.iload_n 1, 1) := by decide +kernel
theorem dX3_isOrIsUnder_18 : decode cX3_isOrIsUnder 18 = .ok (.if_icmp .ne 5, 3) := by decide +kernel
theorem dX3_isOrIsUnder_21 : decode cX3_isOrIsUnder 21 = .ok (.iconst 1, 1) := by decide +kernel
theorem dX3_isOrIsUnder_22 : decode cX3_isOrIsUnder 22 = .ok (.ireturn, 1) := by decide +kernel
theorem dX3_isOrIsUnder_23 : decode cX3_isOrIsUnder 23 = .ok (.getstatic 9, 3) := by decide +kernel
theorem dX3_isOrIsUnder_26 : decode cX3_isOrIsUnder 26 = .ok (.iload_n 2, 1) := by decide +kernel
theorem dX3_isOrIsUnder_27 : decode cX3_isOrIsUnder 27 = .ok (.iaload, 1) := by decide +kernel
theorem dX3_isOrIsUnder_28 : decode cX3_isOrIsUnder 28 = .ok (.istore_n 2, 1) := by decide +kernel
theorem dX3_isOrIsUnder_29 : decode cX3_isOrIsUnder 29 = .ok (.iinc 3 1, 3) := by decide +kernel
theorem dX3_isOrIsUnder_32 : decode cX3_isOrIsUnder 32 = .ok (.goto (-28), 3) := by decide +kernel
theorem dX3_isOrIsUnder_35 : decode cX3_isOrIsUnder 35 = .ok (.iconst 0, 1) := by decide +kernel
theorem dX3_isOrIsUnder_36 : decode cX3_isOrIsUnder 36 = .ok (.ireturn, 1) := by decide +kernel
theorem dX3_vouches_0 : decode cX3_vouches 0 = .ok (.iload_n 0, 1) := by decide +kernel
theorem dX3_vouches_1 : decode cX3_vouches 1 = .ok (.iconst 3, 1) := by decide +kernel
theorem dX3_vouches_2 : decode cX3_vouches 2 = .ok (.invokestatic 13, 3) := by decide +kernel
theorem dX3_vouches_5 : decode cX3_vouches 5 = .ok (.ifCond .ne 7, 3) := by decide +kernel
theorem dX3_vouches_8 : decode cX3_vouches 8 = .ok (.iconst 1, 1) := by decide +kernel
theorem dX3_vouches_9 : decode cX3_vouches 9 = .ok (.goto 4, 3) := by decide +kernel
theorem dX3_vouches_12 : decode cX3_vouches 12 = .ok (.iconst 0, 1) := by decide +kernel
theorem dX3_vouches_13 : decode cX3_vouches 13 = .ok (.ireturn, 1) := by decide +kernel
theorem dX3_maySay_0 : decode cX3_maySay 0 = .ok (.iload_n 1, 1) := by decide +kernel
theorem dX3_maySay_1 : decode cX3_maySay 1 = .ok (.ifCond .eq 12, 3) := by decide +kernel
theorem dX3_maySay_4 : decode cX3_maySay 4 = .ok (.iload_n 0, 1) := by decide +kernel
theorem dX3_maySay_5 : decode cX3_maySay 5 = .ok (.iload_n 2, 1) := by decide +kernel
theorem dX3_maySay_6 : decode cX3_maySay 6 = .ok (.iload_n 3, 1) := by decide +kernel
theorem dX3_maySay_7 : decode cX3_maySay 7 = .ok (.invokestatic 19, 3) := by decide +kernel
theorem dX3_maySay_10 : decode cX3_maySay 10 = .ok (.goto 9, 3) := by decide +kernel
theorem dX3_maySay_13 : decode cX3_maySay 13 = .ok (.iload_n 0, 1) := by decide +kernel
theorem dX3_maySay_14 : decode cX3_maySay 14 = .ok (.iload_n 2, 1) := by decide +kernel
theorem dX3_maySay_15 : decode cX3_maySay 15 = .ok (.iload_n 3, 1) := by decide +kernel
theorem dX3_maySay_16 : decode cX3_maySay 16 = .ok (.invokestatic 23, 3) := by decide +kernel
theorem dX3_maySay_19 : decode cX3_maySay 19 = .ok (.ireturn, 1) := by decide +kernel
theorem dX3_wholeMaySay_0 : decode cX3_wholeMaySay 0 = .ok (.iload_n 0, 1) := by decide +kernel
theorem dX3_wholeMaySay_1 : decode cX3_wholeMaySay 1 = .ok (.iconst 3, 1) := by decide +kernel
theorem dX3_wholeMaySay_2 : decode cX3_wholeMaySay 2 = .ok (.invokestatic 13, 3) := by decide +kernel
theorem dX3_wholeMaySay_5 : decode cX3_wholeMaySay 5 = .ok (.ifCond .eq 17, 3) := by decide +kernel
theorem dX3_wholeMaySay_8 : decode cX3_wholeMaySay 8 = .ok (.iload_n 2, 1) := by decide +kernel
theorem dX3_wholeMaySay_9 : decode cX3_wholeMaySay 9 = .ok (.ifCond .ne 7, 3) := by decide +kernel
theorem dX3_wholeMaySay_12 : decode cX3_wholeMaySay 12 = .ok (.iload_n 1, 1) := by decide +kernel
theorem dX3_wholeMaySay_13 : decode cX3_wholeMaySay 13 = .ok (.ifCond .eq 7, 3) := by decide +kernel
theorem dX3_wholeMaySay_16 : decode cX3_wholeMaySay 16 = .ok (.iconst 1, 1) := by decide +kernel
theorem dX3_wholeMaySay_17 : decode cX3_wholeMaySay 17 = .ok (.goto 4, 3) := by decide +kernel
theorem dX3_wholeMaySay_20 : decode cX3_wholeMaySay 20 = .ok (.iconst 0, 1) := by decide +kernel
theorem dX3_wholeMaySay_21 : decode cX3_wholeMaySay 21 = .ok (.ireturn, 1) := by decide +kernel
theorem dX3_wholeMaySay_22 : decode cX3_wholeMaySay 22 = .ok (.iload_n 2, 1) := by decide +kernel
theorem dX3_wholeMaySay_23 : decode cX3_wholeMaySay 23 = .ok (.iload_n 1, 1) := by decide +kernel
theorem dX3_wholeMaySay_24 : decode cX3_wholeMaySay 24 = .ok (.if_icmp .eq 7, 3) := by decide +kernel
theorem dX3_wholeMaySay_27 : decode cX3_wholeMaySay 27 = .ok (.iconst 1, 1) := by decide +kernel
theorem dX3_wholeMaySay_28 : decode cX3_wholeMaySay 28 = .ok (.goto 4, 3) := by decide +kernel
theorem dX3_wholeMaySay_31 : decode cX3_wholeMaySay 31 = .ok (.iconst 0, 1) := by decide +kernel
theorem dX3_wholeMaySay_32 : decode cX3_wholeMaySay 32 = .ok (.ireturn, 1) := by decide +kernel
theorem dX3_brokenMaySay_0 : decode cX3_brokenMaySay 0 = .ok (.iload_n 0, 1) := by decide +kernel
theorem dX3_brokenMaySay_1 : decode cX3_brokenMaySay 1 = .ok (.tableswitch 64 1 5 #[35, 37, 64, 48, 62], 35) := by decide +kernel
theorem dX3_brokenMaySay_36 : decode cX3_brokenMaySay 36 = .ok (.iload_n 2, 1) := by decide +kernel
theorem dX3_brokenMaySay_37 : decode cX3_brokenMaySay 37 = .ok (.ireturn, 1) := by decide +kernel
theorem dX3_brokenMaySay_38 : decode cX3_brokenMaySay 38 = .ok (.iload_n 2, 1) := by decide +kernel
theorem dX3_brokenMaySay_39 : decode cX3_brokenMaySay 39 = .ok (.iload_n 1, 1) := by decide +kernel
theorem dX3_brokenMaySay_40 : decode cX3_brokenMaySay 40 = .ok (.if_icmp .ne 7, 3) := by decide +kernel
theorem dX3_brokenMaySay_43 : decode cX3_brokenMaySay 43 = .ok (.iconst 1, 1) := by decide +kernel
theorem dX3_brokenMaySay_44 : decode cX3_brokenMaySay 44 = .ok (.goto 4, 3) := by decide +kernel
theorem dX3_brokenMaySay_47 : decode cX3_brokenMaySay 47 = .ok (.iconst 0, 1) := by decide +kernel
theorem dX3_brokenMaySay_48 : decode cX3_brokenMaySay 48 = .ok (.ireturn, 1) := by decide +kernel
theorem dX3_brokenMaySay_49 : decode cX3_brokenMaySay 49 = .ok (.iload_n 2, 1) := by decide +kernel
theorem dX3_brokenMaySay_50 : decode cX3_brokenMaySay 50 = .ok (.ifCond .ne 7, 3) := by decide +kernel
theorem dX3_brokenMaySay_53 : decode cX3_brokenMaySay 53 = .ok (.iload_n 1, 1) := by decide +kernel
theorem dX3_brokenMaySay_54 : decode cX3_brokenMaySay 54 = .ok (.ifCond .ne 7, 3) := by decide +kernel
theorem dX3_brokenMaySay_57 : decode cX3_brokenMaySay 57 = .ok (.iconst 1, 1) := by decide +kernel
theorem dX3_brokenMaySay_58 : decode cX3_brokenMaySay 58 = .ok (.goto 4, 3) := by decide +kernel
theorem dX3_brokenMaySay_61 : decode cX3_brokenMaySay 61 = .ok (.iconst 0, 1) := by decide +kernel
theorem dX3_brokenMaySay_62 : decode cX3_brokenMaySay 62 = .ok (.ireturn, 1) := by decide +kernel
theorem dX3_brokenMaySay_63 : decode cX3_brokenMaySay 63 = .ok (.iconst 0, 1) := by decide +kernel
theorem dX3_brokenMaySay_64 : decode cX3_brokenMaySay 64 = .ok (.ireturn, 1) := by decide +kernel
theorem dX3_brokenMaySay_65 : decode cX3_brokenMaySay 65 = .ok (.iconst 1, 1) := by decide +kernel
theorem dX3_brokenMaySay_66 : decode cX3_brokenMaySay 66 = .ok (.ireturn, 1) := by decide +kernel
theorem dX3_letCases_0 : decode cX3_letCases 0 = .ok (.iconst 0, 1) := by decide +kernel
theorem dX3_letCases_1 : decode cX3_letCases 1 = .ok (.istore_n 2, 1) := by decide +kernel
theorem dX3_letCases_2 : decode cX3_letCases 2 = .ok (.iconst 0, 1) := by decide +kernel
theorem dX3_letCases_3 : decode cX3_letCases 3 = .ok (.istore_n 3, 1) := by decide +kernel
theorem dX3_letCases_4 : decode cX3_letCases 4 = .ok (.iload_n 3, 1) := by decide +kernel
theorem dX3_letCases_5 : decode cX3_letCases 5 = .ok (.iconst 4, 1) := by decide +kernel
theorem dX3_letCases_6 : decode cX3_letCases 6 = .ok (.if_icmp .ge 45, 3) := by decide +kernel
theorem dX3_letCases_9 : decode cX3_letCases 9 = .ok (.iload_n 0, 1) := by decide +kernel
theorem dX3_letCases_10 : decode cX3_letCases 10 = .ok (.iload_n 3, 1) := by decide +kernel
theorem dX3_letCases_11 : decode cX3_letCases 11 = .ok (.iconst 2, 1) := by decide +kernel
theorem dX3_letCases_12 : decode cX3_letCases 12 = .ok (.iand, 1) := by decide +kernel
theorem dX3_letCases_13 : decode cX3_letCases 13 = .ok (.ifCond .eq 7, 3) := by decide +kernel
theorem dX3_letCases_16 : decode cX3_letCases 16 = .ok (.iconst 1, 1) := by decide +kernel
theorem dX3_letCases_17 : decode cX3_letCases 17 = .ok (.goto 4, 3) := by decide +kernel
theorem dX3_letCases_20 : decode cX3_letCases 20 = .ok (.iconst 0, 1) := by decide +kernel
theorem dX3_letCases_21 : decode cX3_letCases 21 = .ok (.iload_n 3, 1) := by decide +kernel
theorem dX3_letCases_22 : decode cX3_letCases 22 = .ok (.iconst 1, 1) := by decide +kernel
theorem dX3_letCases_23 : decode cX3_letCases 23 = .ok (.iand, 1) := by decide +kernel
theorem dX3_letCases_24 : decode cX3_letCases 24 = .ok (.ifCond .eq 7, 3) := by decide +kernel
theorem dX3_letCases_27 : decode cX3_letCases 27 = .ok (.iconst 1, 1) := by decide +kernel
theorem dX3_letCases_28 : decode cX3_letCases 28 = .ok (.goto 4, 3) := by decide +kernel
theorem dX3_letCases_31 : decode cX3_letCases 31 = .ok (.iconst 0, 1) := by decide +kernel
theorem dX3_letCases_32 : decode cX3_letCases 32 = .ok (.iload_n 1, 1) := by decide +kernel
theorem dX3_letCases_33 : decode cX3_letCases 33 = .ok (.invokestatic 26, 3) := by decide +kernel
theorem dX3_letCases_36 : decode cX3_letCases 36 = .ok (.ifCond .eq 9, 3) := by decide +kernel
theorem dX3_letCases_39 : decode cX3_letCases 39 = .ok (.iload_n 2, 1) := by decide +kernel
theorem dX3_letCases_40 : decode cX3_letCases 40 = .ok (.iconst 1, 1) := by decide +kernel
theorem dX3_letCases_41 : decode cX3_letCases 41 = .ok (.iload_n 3, 1) := by decide +kernel
theorem dX3_letCases_42 : decode cX3_letCases 42 = .ok (.ishl, 1) := by decide +kernel
theorem dX3_letCases_43 : decode cX3_letCases 43 = .ok (.ior, 1) := by decide +kernel
theorem dX3_letCases_44 : decode cX3_letCases 44 = .ok (.istore_n 2, 1) := by decide +kernel
theorem dX3_letCases_45 : decode cX3_letCases 45 = .ok (.iinc 3 1, 3) := by decide +kernel
theorem dX3_letCases_48 : decode cX3_letCases 48 = .ok (.goto (-44), 3) := by decide +kernel
theorem dX3_letCases_51 : decode cX3_letCases 51 = .ok (.iload_n 2, 1) := by decide +kernel
theorem dX3_letCases_52 : decode cX3_letCases 52 = .ok (.ireturn, 1) := by decide +kernel
theorem dX3_areLet_0 : decode cX3_areLet 0 = .ok (.iload_n 1, 1) := by decide +kernel
theorem dX3_areLet_1 : decode cX3_areLet 1 = .ok (.iload_n 2, 1) := by decide +kernel
theorem dX3_areLet_2 : decode cX3_areLet 2 = .ok (.ishr, 1) := by decide +kernel
theorem dX3_areLet_3 : decode cX3_areLet 3 = .ok (.iconst 1, 1) := by decide +kernel
theorem dX3_areLet_4 : decode cX3_areLet 4 = .ok (.iand, 1) := by decide +kernel
theorem dX3_areLet_5 : decode cX3_areLet 5 = .ok (.istore 4, 2) := by decide +kernel
theorem dX3_areLet_7 : decode cX3_areLet 7 = .ok (.iload_n 1, 1) := by decide +kernel
theorem dX3_areLet_8 : decode cX3_areLet 8 = .ok (.iload_n 3, 1) := by decide +kernel
theorem dX3_areLet_9 : decode cX3_areLet 9 = .ok (.ishr, 1) := by decide +kernel
theorem dX3_areLet_10 : decode cX3_areLet 10 = .ok (.iconst 1, 1) := by decide +kernel
theorem dX3_areLet_11 : decode cX3_areLet 11 = .ok (.iand, 1) := by decide +kernel
theorem dX3_areLet_12 : decode cX3_areLet 12 = .ok (.istore 5, 2) := by decide +kernel
theorem dX3_areLet_14 : decode cX3_areLet 14 = .ok (.iload_n 0, 1) := by decide +kernel
theorem dX3_areLet_15 : decode cX3_areLet 15 = .ok (.iconst 2, 1) := by decide +kernel
theorem dX3_areLet_16 : decode cX3_areLet 16 = .ok (.iload 4, 2) := by decide +kernel
theorem dX3_areLet_18 : decode cX3_areLet 18 = .ok (.imul, 1) := by decide +kernel
theorem dX3_areLet_19 : decode cX3_areLet 19 = .ok (.iload 5, 2) := by decide +kernel
theorem dX3_areLet_21 : decode cX3_areLet 21 = .ok (.iadd, 1) := by decide +kernel
theorem dX3_areLet_22 : decode cX3_areLet 22 = .ok (.ishr, 1) := by decide +kernel
theorem dX3_areLet_23 : decode cX3_areLet 23 = .ok (.iconst 1, 1) := by decide +kernel
theorem dX3_areLet_24 : decode cX3_areLet 24 = .ok (.iand, 1) := by decide +kernel
theorem dX3_areLet_25 : decode cX3_areLet 25 = .ok (.ifCond .eq 7, 3) := by decide +kernel
theorem dX3_areLet_28 : decode cX3_areLet 28 = .ok (.iconst 1, 1) := by decide +kernel
theorem dX3_areLet_29 : decode cX3_areLet 29 = .ok (.goto 4, 3) := by decide +kernel
theorem dX3_areLet_32 : decode cX3_areLet 32 = .ok (.iconst 0, 1) := by decide +kernel
theorem dX3_areLet_33 : decode cX3_areLet 33 = .ok (.ireturn, 1) := by decide +kernel
theorem dX4_init_0 : decode cX4_init 0 = .ok (.aload_n 0, 1) := by decide +kernel
theorem dX4_init_1 : decode cX4_init 1 = .ok (.invokespecial 3, 3) := by decide +kernel
theorem dX4_init_4 : decode cX4_init 4 = .ok (.aload_n 0, 1) := by decide +kernel
theorem dX4_init_5 : decode cX4_init 5 = .ok (.aload_n 1, 1) := by decide +kernel
theorem dX4_init_6 : decode cX4_init 6 = .ok (.putfield 9, 3) := by decide +kernel
theorem dX4_init_9 : decode cX4_init 9 = .ok (.return_, 1) := by decide +kernel
theorem dX4_read_0 : decode cX4_read 0 = .ok (.aload_n 0, 1) := by decide +kernel
theorem dX4_read_1 : decode cX4_read 1 = .ok (.iconst 0, 1) := by decide +kernel
theorem dX4_read_2 : decode cX4_read 2 = .ok (.putfield 15, 3) := by decide +kernel
theorem dX4_read_5 : decode cX4_read 5 = .ok (.aload_n 0, 1) := by decide +kernel
theorem dX4_read_6 : decode cX4_read 6 = .ok (.iconst (-1), 1) := by decide +kernel
theorem dX4_read_7 : decode cX4_read 7 = .ok (.putfield 19, 3) := by decide +kernel
theorem dX4_read_10 : decode cX4_read 10 = .ok (.iconst 0, 1) := by decide +kernel
theorem dX4_read_11 : decode cX4_read 11 = .ok (.istore_n 1, 1) := by decide +kernel
theorem dX4_read_12 : decode cX4_read 12 = .ok (.iconst 1, 1) := by decide +kernel
theorem dX4_read_13 : decode cX4_read 13 = .ok (.istore_n 2, 1) := by decide +kernel
theorem dX4_read_14 : decode cX4_read 14 = .ok (.iload_n 2, 1) := by decide +kernel
theorem dX4_read_15 : decode cX4_read 15 = .ok (.ifCond .eq 76, 3) := by decide +kernel
theorem dX4_read_18 : decode cX4_read 18 = .ok (.iload_n 1, 1) := by decide +kernel
theorem dX4_read_19 : decode cX4_read 19 = .ok (.bipush 80, 2) := by decide +kernel
theorem dX4_read_21 : decode cX4_read 21 = .ok (.if_icmp .ge 70, 3) := by decide +kernel
theorem dX4_read_24 : decode cX4_read 24 = .ok (.aload_n 0, 1) := by decide +kernel
theorem dX4_read_25 : decode cX4_read 25 = .ok (.invokevirtual 22, 3) := by decide +kernel
theorem dX4_read_28 : decode cX4_read 28 = .ok (.iinc 1 1, 3) := by decide +kernel
theorem dX4_read_31 : decode cX4_read 31 = .ok (.aload_n 0, 1) := by decide +kernel
theorem dX4_read_32 : decode cX4_read 32 = .ok (.invokevirtual 25, 3) := by decide +kernel
theorem dX4_read_35 : decode cX4_read 35 = .ok (.aload_n 0, 1) := by decide +kernel
theorem dX4_read_36 : decode cX4_read 36 = .ok (.invokevirtual 28, 3) := by decide +kernel
theorem dX4_read_39 : decode cX4_read 39 = .ok (.ifCond .eq 32, 3) := by decide +kernel
theorem dX4_read_42 : decode cX4_read 42 = .ok (.aload_n 0, 1) := by decide +kernel
theorem dX4_read_43 : decode cX4_read 43 = .ok (.getfield 32, 3) := by decide +kernel
theorem dX4_read_46 : decode cX4_read 46 = .ok (.iconst 3, 1) := by decide +kernel
theorem dX4_read_47 : decode cX4_read 47 = .ok (.if_icmp .ne 24, 3) := by decide +kernel
theorem dX4_read_50 : decode cX4_read 50 = .ok (.aload_n 0, 1) := by decide +kernel
theorem dX4_read_51 : decode cX4_read 51 = .ok (.getfield 9, 3) := by decide +kernel
theorem dX4_read_54 : decode cX4_read 54 = .ok (.getfield 35, 3) := by decide +kernel
theorem dX4_read_57 : decode cX4_read 57 = .ok (.aload_n 0, 1) := by decide +kernel
theorem dX4_read_58 : decode cX4_read 58 = .ok (.getfield 41, 3) := by decide +kernel
theorem dX4_read_61 : decode cX4_read 61 = .ok (.baload, 1) := by decide +kernel
theorem dX4_read_62 : decode cX4_read 62 = .ok (.bipush 59, 2) := by decide +kernel
theorem dX4_read_64 : decode cX4_read 64 = .ok (.if_icmp .ne 7, 3) := by decide +kernel
theorem dX4_read_67 : decode cX4_read 67 = .ok (.iconst 1, 1) := by decide +kernel
theorem dX4_read_68 : decode cX4_read 68 = .ok (.goto 4, 3) := by decide +kernel
theorem dX4_read_71 : decode cX4_read 71 = .ok (.iconst 0, 1) := by decide +kernel
theorem dX4_read_72 : decode cX4_read 72 = .ok (.istore_n 2, 1) := by decide +kernel
theorem dX4_read_73 : decode cX4_read 73 = .ok (.iload_n 2, 1) := by decide +kernel
theorem dX4_read_74 : decode cX4_read 74 = .ok (.ifCond .ne (-60), 3) := by decide +kernel
theorem dX4_read_77 : decode cX4_read 77 = .ok (.aload_n 0, 1) := by decide +kernel
theorem dX4_read_78 : decode cX4_read 78 = .ok (.getfield 32, 3) := by decide +kernel
theorem dX4_read_81 : decode cX4_read 81 = .ok (.ifCond .eq (-67), 3) := by decide +kernel
theorem dX4_read_84 : decode cX4_read 84 = .ok (.aload_n 0, 1) := by decide +kernel
theorem dX4_read_85 : decode cX4_read 85 = .ok (.invokevirtual 44, 3) := by decide +kernel
theorem dX4_read_88 : decode cX4_read 88 = .ok (.goto (-74), 3) := by decide +kernel
theorem dX4_read_91 : decode cX4_read 91 = .ok (.aload_n 0, 1) := by decide +kernel
theorem dX4_read_92 : decode cX4_read 92 = .ok (.invokevirtual 28, 3) := by decide +kernel
theorem dX4_read_95 : decode cX4_read 95 = .ok (.ifCond .eq 7, 3) := by decide +kernel
theorem dX4_read_98 : decode cX4_read 98 = .ok (.iload_n 1, 1) := by decide +kernel
theorem dX4_read_99 : decode cX4_read 99 = .ok (.goto 10, 3) := by decide +kernel
theorem dX4_read_102 : decode cX4_read 102 = .ok (.bipush (-10), 2) := by decide +kernel
theorem dX4_read_104 : decode cX4_read 104 = .ok (.aload_n 0, 1) := by decide +kernel
theorem dX4_read_105 : decode cX4_read 105 = .ok (.getfield 19, 3) := by decide +kernel
theorem dX4_read_108 : decode cX4_read 108 = .ok (.isub, 1) := by decide +kernel
theorem dX4_read_109 : decode cX4_read 109 = .ok (.ireturn, 1) := by decide +kernel
theorem dX4_isRight_0 : decode cX4_isRight 0 = .ok (.aload_n 0, 1) := by decide +kernel
theorem dX4_isRight_1 : decode cX4_isRight 1 = .ok (.getfield 19, 3) := by decide +kernel
theorem dX4_isRight_4 : decode cX4_isRight 4 = .ok (.iconst (-1), 1) := by decide +kernel
theorem dX4_isRight_5 : decode cX4_isRight 5 = .ok (.if_icmp .ne 7, 3) := by decide +kernel
theorem dX4_isRight_8 : decode cX4_isRight 8 = .ok (.iconst 1, 1) := by decide +kernel
theorem dX4_isRight_9 : decode cX4_isRight 9 = .ok (.goto 4, 3) := by decide +kernel
theorem dX4_isRight_12 : decode cX4_isRight 12 = .ok (.iconst 0, 1) := by decide +kernel
theorem dX4_isRight_13 : decode cX4_isRight 13 = .ok (.ireturn, 1) := by decide +kernel
theorem dX4_fail_0 : decode cX4_fail 0 = .ok (.aload_n 0, 1) := by decide +kernel
theorem dX4_fail_1 : decode cX4_fail 1 = .ok (.invokevirtual 28, 3) := by decide +kernel
theorem dX4_fail_4 : decode cX4_fail 4 = .ok (.ifCond .eq 11, 3) := by decide +kernel
theorem dX4_fail_7 : decode cX4_fail 7 = .ok (.aload_n 0, 1) := by decide +kernel
theorem dX4_fail_8 : decode cX4_fail 8 = .ok (.aload_n 0, 1) := by decide +kernel
theorem dX4_fail_9 : decode cX4_fail 9 = .ok (.getfield 41, 3) := by decide +kernel
theorem dX4_fail_12 : decode cX4_fail 12 = .ok (.putfield 19, 3) := by decide +kernel
theorem dX4_fail_15 : decode cX4_fail 15 = .ok (.return_, 1) := by decide +kernel
theorem dX4_readItem_0 : decode cX4_readItem 0 = .ok (.aload_n 0, 1) := by decide +kernel
theorem dX4_readItem_1 : decode cX4_readItem 1 = .ok (.invokevirtual 25, 3) := by decide +kernel
theorem dX4_readItem_4 : decode cX4_readItem 4 = .ok (.aload_n 0, 1) := by decide +kernel
theorem dX4_readItem_5 : decode cX4_readItem 5 = .ok (.ldc 47, 2) := by decide +kernel
theorem dX4_readItem_7 : decode cX4_readItem 7 = .ok (.invokevirtual 49, 3) := by decide +kernel
theorem dX4_readItem_10 : decode cX4_readItem 10 = .ok (.ifCond .eq 20, 3) := by decide +kernel
theorem dX4_readItem_13 : decode cX4_readItem 13 = .ok (.aload_n 0, 1) := by decide +kernel
theorem dX4_readItem_14 : decode cX4_readItem 14 = .ok (.getfield 9, 3) := by decide +kernel
theorem dX4_readItem_17 : decode cX4_readItem 17 = .ok (.invokevirtual 53, 3) := by decide +kernel
theorem dX4_readItem_20 : decode cX4_readItem 20 = .ok (.ifCond .eq 10, 3) := by decide +kernel
theorem dX4_readItem_23 : decode cX4_readItem 23 = .ok (.aload_n 0, 1) := by decide +kernel
theorem dX4_readItem_24 : decode cX4_readItem 24 = .ok (.invokevirtual 56, 3) := by decide +kernel
theorem dX4_readItem_27 : decode cX4_readItem 27 = .ok (.goto 65, 3) := by decide +kernel
theorem dX4_readItem_30 : decode cX4_readItem 30 = .ok (.aload_n 0, 1) := by decide +kernel
theorem dX4_readItem_31 : decode cX4_readItem 31 = .ok (.ldc 59, 2) := by decide +kernel
theorem dX4_readItem_33 : decode cX4_readItem 33 = .ok (.invokevirtual 49, 3) := by decide +kernel
theorem dX4_readItem_36 : decode cX4_readItem 36 = .ok (.ifCond .eq 10, 3) := by decide +kernel
theorem dX4_readItem_39 : decode cX4_readItem 39 = .ok (.aload_n 0, 1) := by decide +kernel
theorem dX4_readItem_40 : decode cX4_readItem 40 = .ok (.invokevirtual 61, 3) := by decide +kernel
theorem dX4_readItem_43 : decode cX4_readItem 43 = .ok (.goto 49, 3) := by decide +kernel
theorem dX4_readItem_46 : decode cX4_readItem 46 = .ok (.aload_n 0, 1) := by decide +kernel
theorem dX4_readItem_47 : decode cX4_readItem 47 = .ok (.ldc 64, 2) := by decide +kernel
theorem dX4_readItem_49 : decode cX4_readItem 49 = .ok (.invokevirtual 49, 3) := by decide +kernel
theorem dX4_readItem_52 : decode cX4_readItem 52 = .ok (.ifCond .eq 20, 3) := by decide +kernel
theorem dX4_readItem_55 : decode cX4_readItem 55 = .ok (.aload_n 0, 1) := by decide +kernel
theorem dX4_readItem_56 : decode cX4_readItem 56 = .ok (.getfield 9, 3) := by decide +kernel
theorem dX4_readItem_59 : decode cX4_readItem 59 = .ok (.invokevirtual 66, 3) := by decide +kernel
theorem dX4_readItem_62 : decode cX4_readItem 62 = .ok (.ifCond .eq 10, 3) := by decide +kernel
theorem dX4_readItem_65 : decode cX4_readItem 65 = .ok (.aload_n 0, 1) := by decide +kernel
theorem dX4_readItem_66 : decode cX4_readItem 66 = .ok (.invokevirtual 69, 3) := by decide +kernel
theorem dX4_readItem_69 : decode cX4_readItem 69 = .ok (.goto 23, 3) := by decide +kernel
theorem dX4_readItem_72 : decode cX4_readItem 72 = .ok (.aload_n 0, 1) := by decide +kernel
theorem dX4_readItem_73 : decode cX4_readItem 73 = .ok (.ldc 72, 2) := by decide +kernel
theorem dX4_readItem_75 : decode cX4_readItem 75 = .ok (.invokevirtual 49, 3) := by decide +kernel
theorem dX4_readItem_78 : decode cX4_readItem 78 = .ok (.ifCond .eq 10, 3) := by decide +kernel
theorem dX4_readItem_81 : decode cX4_readItem 81 = .ok (.aload_n 0, 1) := by decide +kernel
theorem dX4_readItem_82 : decode cX4_readItem 82 = .ok (.invokevirtual 74, 3) := by decide +kernel
theorem dX4_readItem_85 : decode cX4_readItem 85 = .ok (.goto 7, 3) := by decide +kernel
theorem dX4_readItem_88 : decode cX4_readItem 88 = .ok (.aload_n 0, 1) := by decide +kernel
theorem dX4_readItem_89 : decode cX4_readItem 89 = .ok (.invokevirtual 44, 3) := by decide +kernel
theorem dX4_readItem_92 : decode cX4_readItem 92 = .ok (.return_, 1) := by decide +kernel
theorem dX4_readMachine_0 : decode cX4_readMachine 0 = .ok (.aload_n 0, 1) := by decide +kernel
theorem dX4_readMachine_1 : decode cX4_readMachine 1 = .ok (.invokevirtual 77, 3) := by decide +kernel
theorem dX4_readMachine_4 : decode cX4_readMachine 4 = .ok (.istore_n 1, 1) := by decide +kernel
theorem dX4_readMachine_5 : decode cX4_readMachine 5 = .ok (.aload_n 0, 1) := by decide +kernel
theorem dX4_readMachine_6 : decode cX4_readMachine 6 = .ok (.iconst 1, 1) := by decide +kernel
theorem dX4_readMachine_7 : decode cX4_readMachine 7 = .ok (.bipush 99, 2) := by decide +kernel
theorem dX4_readMachine_9 : decode cX4_readMachine 9 = .ok (.invokevirtual 81, 3) := by decide +kernel
theorem dX4_readMachine_12 : decode cX4_readMachine 12 = .ok (.istore_n 2, 1) := by decide +kernel
theorem dX4_readMachine_13 : decode cX4_readMachine 13 = .ok (.aload_n 0, 1) := by decide +kernel
theorem dX4_readMachine_14 : decode cX4_readMachine 14 = .ok (.iconst 1, 1) := by decide +kernel
theorem dX4_readMachine_15 : decode cX4_readMachine 15 = .ok (.bipush 9, 2) := by decide +kernel
theorem dX4_readMachine_17 : decode cX4_readMachine 17 = .ok (.invokevirtual 81, 3) := by decide +kernel
theorem dX4_readMachine_20 : decode cX4_readMachine 20 = .ok (.istore_n 3, 1) := by decide +kernel
theorem dX4_readMachine_21 : decode cX4_readMachine 21 = .ok (.aload_n 0, 1) := by decide +kernel
theorem dX4_readMachine_22 : decode cX4_readMachine 22 = .ok (.invokevirtual 28, 3) := by decide +kernel
theorem dX4_readMachine_25 : decode cX4_readMachine 25 = .ok (.ifCond .eq 14, 3) := by decide +kernel
theorem dX4_readMachine_28 : decode cX4_readMachine 28 = .ok (.aload_n 0, 1) := by decide +kernel
theorem dX4_readMachine_29 : decode cX4_readMachine 29 = .ok (.getfield 9, 3) := by decide +kernel
theorem dX4_readMachine_32 : decode cX4_readMachine 32 = .ok (.iload_n 1, 1) := by decide +kernel
theorem dX4_readMachine_33 : decode cX4_readMachine 33 = .ok (.iload_n 2, 1) := by decide +kernel
theorem dX4_readMachine_34 : decode cX4_readMachine 34 = .ok (.iload_n 3, 1) := by decide +kernel
theorem dX4_readMachine_35 : decode cX4_readMachine 35 = .ok (.invokevirtual 85, 3) := by decide +kernel
theorem dX4_readMachine_38 : decode cX4_readMachine 38 = .ok (.pop, 1) := by decide +kernel
theorem dX4_readMachine_39 : decode cX4_readMachine 39 = .ok (.return_, 1) := by decide +kernel
theorem dX4_readTie_0 : decode cX4_readTie 0 = .ok (.aload_n 0, 1) := by decide +kernel
theorem dX4_readTie_1 : decode cX4_readTie 1 = .ok (.iconst 0, 1) := by decide +kernel
theorem dX4_readTie_2 : decode cX4_readTie 2 = .ok (.aload_n 0, 1) := by decide +kernel
theorem dX4_readTie_3 : decode cX4_readTie 3 = .ok (.getfield 9, 3) := by decide +kernel
theorem dX4_readTie_6 : decode cX4_readTie 6 = .ok (.getfield 89, 3) := by decide +kernel
theorem dX4_readTie_9 : decode cX4_readTie 9 = .ok (.iconst 1, 1) := by decide +kernel
theorem dX4_readTie_10 : decode cX4_readTie 10 = .ok (.isub, 1) := by decide +kernel
theorem dX4_readTie_11 : decode cX4_readTie 11 = .ok (.invokevirtual 81, 3) := by decide +kernel
theorem dX4_readTie_14 : decode cX4_readTie 14 = .ok (.istore_n 1, 1) := by decide +kernel
theorem dX4_readTie_15 : decode cX4_readTie 15 = .ok (.aload_n 0, 1) := by decide +kernel
theorem dX4_readTie_16 : decode cX4_readTie 16 = .ok (.iconst 0, 1) := by decide +kernel
theorem dX4_readTie_17 : decode cX4_readTie 17 = .ok (.aload_n 0, 1) := by decide +kernel
theorem dX4_readTie_18 : decode cX4_readTie 18 = .ok (.getfield 9, 3) := by decide +kernel
theorem dX4_readTie_21 : decode cX4_readTie 21 = .ok (.getfield 89, 3) := by decide +kernel
theorem dX4_readTie_24 : decode cX4_readTie 24 = .ok (.iconst 1, 1) := by decide +kernel
theorem dX4_readTie_25 : decode cX4_readTie 25 = .ok (.isub, 1) := by decide +kernel
theorem dX4_readTie_26 : decode cX4_readTie 26 = .ok (.invokevirtual 81, 3) := by decide +kernel
theorem dX4_readTie_29 : decode cX4_readTie 29 = .ok (.istore_n 2, 1) := by decide +kernel
theorem dX4_readTie_30 : decode cX4_readTie 30 = .ok (.aload_n 0, 1) := by decide +kernel
theorem dX4_readTie_31 : decode cX4_readTie 31 = .ok (.invokevirtual 28, 3) := by decide +kernel
theorem dX4_readTie_34 : decode cX4_readTie 34 = .ok (.ifCond .eq 12, 3) := by decide +kernel
theorem dX4_readTie_37 : decode cX4_readTie 37 = .ok (.iload_n 1, 1) := by decide +kernel
theorem dX4_readTie_38 : decode cX4_readTie 38 = .ok (.iload_n 2, 1) := by decide +kernel
theorem dX4_readTie_39 : decode cX4_readTie 39 = .ok (.if_icmp .ne 7, 3) := by decide +kernel
theorem dX4_readTie_42 : decode cX4_readTie 42 = .ok (.aload_n 0, 1) := by decide +kernel
theorem dX4_readTie_43 : decode cX4_readTie 43 = .ok (.invokevirtual 44, 3) := by decide +kernel
theorem dX4_readTie_46 : decode cX4_readTie 46 = .ok (.aload_n 0, 1) := by decide +kernel
theorem dX4_readTie_47 : decode cX4_readTie 47 = .ok (.iconst 1, 1) := by decide +kernel
theorem dX4_readTie_48 : decode cX4_readTie 48 = .ok (.bipush 99, 2) := by decide +kernel
theorem dX4_readTie_50 : decode cX4_readTie 50 = .ok (.invokevirtual 81, 3) := by decide +kernel
theorem dX4_readTie_53 : decode cX4_readTie 53 = .ok (.istore_n 3, 1) := by decide +kernel
theorem dX4_readTie_54 : decode cX4_readTie 54 = .ok (.aload_n 0, 1) := by decide +kernel
theorem dX4_readTie_55 : decode cX4_readTie 55 = .ok (.invokevirtual 28, 3) := by decide +kernel
theorem dX4_readTie_58 : decode cX4_readTie 58 = .ok (.ifCond .eq 14, 3) := by decide +kernel
theorem dX4_readTie_61 : decode cX4_readTie 61 = .ok (.aload_n 0, 1) := by decide +kernel
theorem dX4_readTie_62 : decode cX4_readTie 62 = .ok (.getfield 9, 3) := by decide +kernel
theorem dX4_readTie_65 : decode cX4_readTie 65 = .ok (.iload_n 1, 1) := by decide +kernel
theorem dX4_readTie_66 : decode cX4_readTie 66 = .ok (.iload_n 2, 1) := by decide +kernel
theorem dX4_readTie_67 : decode cX4_readTie 67 = .ok (.iload_n 3, 1) := by decide +kernel
theorem dX4_readTie_68 : decode cX4_readTie 68 = .ok (.invokevirtual 92, 3) := by decide +kernel
theorem dX4_readTie_71 : decode cX4_readTie 71 = .ok (.pop, 1) := by decide +kernel
theorem dX4_readTie_72 : decode cX4_readTie 72 = .ok (.return_, 1) := by decide +kernel
theorem dX4_readSaying_0 : decode cX4_readSaying 0 = .ok (.aload_n 0, 1) := by decide +kernel
theorem dX4_readSaying_1 : decode cX4_readSaying 1 = .ok (.iconst 0, 1) := by decide +kernel
theorem dX4_readSaying_2 : decode cX4_readSaying 2 = .ok (.aload_n 0, 1) := by decide +kernel
theorem dX4_readSaying_3 : decode cX4_readSaying 3 = .ok (.getfield 9, 3) := by decide +kernel
theorem dX4_readSaying_6 : decode cX4_readSaying 6 = .ok (.getfield 89, 3) := by decide +kernel
theorem dX4_readSaying_9 : decode cX4_readSaying 9 = .ok (.iconst 1, 1) := by decide +kernel
theorem dX4_readSaying_10 : decode cX4_readSaying 10 = .ok (.isub, 1) := by decide +kernel
theorem dX4_readSaying_11 : decode cX4_readSaying 11 = .ok (.invokevirtual 81, 3) := by decide +kernel
theorem dX4_readSaying_14 : decode cX4_readSaying 14 = .ok (.istore_n 1, 1) := by decide +kernel
theorem dX4_readSaying_15 : decode cX4_readSaying 15 = .ok (.aload_n 0, 1) := by decide +kernel
theorem dX4_readSaying_16 : decode cX4_readSaying 16 = .ok (.iconst 0, 1) := by decide +kernel
theorem dX4_readSaying_17 : decode cX4_readSaying 17 = .ok (.aload_n 0, 1) := by decide +kernel
theorem dX4_readSaying_18 : decode cX4_readSaying 18 = .ok (.getfield 9, 3) := by decide +kernel
theorem dX4_readSaying_21 : decode cX4_readSaying 21 = .ok (.getfield 89, 3) := by decide +kernel
theorem dX4_readSaying_24 : decode cX4_readSaying 24 = .ok (.iconst 1, 1) := by decide +kernel
theorem dX4_readSaying_25 : decode cX4_readSaying 25 = .ok (.isub, 1) := by decide +kernel
theorem dX4_readSaying_26 : decode cX4_readSaying 26 = .ok (.invokevirtual 81, 3) := by decide +kernel
theorem dX4_readSaying_29 : decode cX4_readSaying 29 = .ok (.istore_n 2, 1) := by decide +kernel
theorem dX4_readSaying_30 : decode cX4_readSaying 30 = .ok (.aload_n 0, 1) := by decide +kernel
theorem dX4_readSaying_31 : decode cX4_readSaying 31 = .ok (.invokevirtual 28, 3) := by decide +kernel
theorem dX4_readSaying_34 : decode cX4_readSaying 34 = .ok (.ifCond .eq 19, 3) := by decide +kernel
theorem dX4_readSaying_37 : decode cX4_readSaying 37 = .ok (.aload_n 0, 1) := by decide +kernel
theorem dX4_readSaying_38 : decode cX4_readSaying 38 = .ok (.getfield 9, 3) := by decide +kernel
theorem dX4_readSaying_41 : decode cX4_readSaying 41 = .ok (.iload_n 1, 1) := by decide +kernel
theorem dX4_readSaying_42 : decode cX4_readSaying 42 = .ok (.iload_n 2, 1) := by decide +kernel
theorem dX4_readSaying_43 : decode cX4_readSaying 43 = .ok (.invokevirtual 95, 3) := by decide +kernel
theorem dX4_readSaying_46 : decode cX4_readSaying 46 = .ok (.ifCond .eq 7, 3) := by decide +kernel
theorem dX4_readSaying_49 : decode cX4_readSaying 49 = .ok (.aload_n 0, 1) := by decide +kernel
theorem dX4_readSaying_50 : decode cX4_readSaying 50 = .ok (.invokevirtual 44, 3) := by decide +kernel
theorem dX4_readSaying_53 : decode cX4_readSaying 53 = .ok (.aload_n 0, 1) := by decide +kernel
theorem dX4_readSaying_54 : decode cX4_readSaying 54 = .ok (.invokevirtual 25, 3) := by decide +kernel
theorem dX4_readSaying_57 : decode cX4_readSaying 57 = .ok (.aload_n 0, 1) := by decide +kernel
theorem dX4_readSaying_58 : decode cX4_readSaying 58 = .ok (.ldc 98, 2) := by decide +kernel
theorem dX4_readSaying_60 : decode cX4_readSaying 60 = .ok (.invokevirtual 49, 3) := by decide +kernel
theorem dX4_readSaying_63 : decode cX4_readSaying 63 = .ok (.istore_n 3, 1) := by decide +kernel
theorem dX4_readSaying_64 : decode cX4_readSaying 64 = .ok (.iload_n 3, 1) := by decide +kernel
theorem dX4_readSaying_65 : decode cX4_readSaying 65 = .ok (.ifCond .ne 16, 3) := by decide +kernel
theorem dX4_readSaying_68 : decode cX4_readSaying 68 = .ok (.aload_n 0, 1) := by decide +kernel
theorem dX4_readSaying_69 : decode cX4_readSaying 69 = .ok (.ldc 100, 2) := by decide +kernel
theorem dX4_readSaying_71 : decode cX4_readSaying 71 = .ok (.invokevirtual 49, 3) := by decide +kernel
theorem dX4_readSaying_74 : decode cX4_readSaying 74 = .ok (.ifCond .ne 7, 3) := by decide +kernel
theorem dX4_readSaying_77 : decode cX4_readSaying 77 = .ok (.aload_n 0, 1) := by decide +kernel
theorem dX4_readSaying_78 : decode cX4_readSaying 78 = .ok (.invokevirtual 44, 3) := by decide +kernel
theorem dX4_readSaying_81 : decode cX4_readSaying 81 = .ok (.aload_n 0, 1) := by decide +kernel
theorem dX4_readSaying_82 : decode cX4_readSaying 82 = .ok (.invokevirtual 28, 3) := by decide +kernel
theorem dX4_readSaying_85 : decode cX4_readSaying 85 = .ok (.ifCond .eq 14, 3) := by decide +kernel
theorem dX4_readSaying_88 : decode cX4_readSaying 88 = .ok (.aload_n 0, 1) := by decide +kernel
theorem dX4_readSaying_89 : decode cX4_readSaying 89 = .ok (.getfield 9, 3) := by decide +kernel
theorem dX4_readSaying_92 : decode cX4_readSaying 92 = .ok (.iload_n 1, 1) := by decide +kernel
theorem dX4_readSaying_93 : decode cX4_readSaying 93 = .ok (.iload_n 2, 1) := by decide +kernel
theorem dX4_readSaying_94 : decode cX4_readSaying 94 = .ok (.iload_n 3, 1) := by decide +kernel
theorem dX4_readSaying_95 : decode cX4_readSaying 95 = .ok (.invokevirtual 102, 3) := by decide +kernel
theorem dX4_readSaying_98 : decode cX4_readSaying 98 = .ok (.pop, 1) := by decide +kernel
theorem dX4_readSaying_99 : decode cX4_readSaying 99 = .ok (.return_, 1) := by decide +kernel
theorem dX4_readMost_0 : decode cX4_readMost 0 = .ok (.aload_n 0, 1) := by decide +kernel
theorem dX4_readMost_1 : decode cX4_readMost 1 = .ok (.iconst 0, 1) := by decide +kernel
theorem dX4_readMost_2 : decode cX4_readMost 2 = .ok (.bipush 12, 2) := by decide +kernel
theorem dX4_readMost_4 : decode cX4_readMost 4 = .ok (.invokevirtual 81, 3) := by decide +kernel
theorem dX4_readMost_7 : decode cX4_readMost 7 = .ok (.istore_n 1, 1) := by decide +kernel
theorem dX4_readMost_8 : decode cX4_readMost 8 = .ok (.aload_n 0, 1) := by decide +kernel
theorem dX4_readMost_9 : decode cX4_readMost 9 = .ok (.invokevirtual 28, 3) := by decide +kernel
theorem dX4_readMost_12 : decode cX4_readMost 12 = .ok (.ifCond .eq 12, 3) := by decide +kernel
theorem dX4_readMost_15 : decode cX4_readMost 15 = .ok (.aload_n 0, 1) := by decide +kernel
theorem dX4_readMost_16 : decode cX4_readMost 16 = .ok (.getfield 9, 3) := by decide +kernel
theorem dX4_readMost_19 : decode cX4_readMost 19 = .ok (.iload_n 1, 1) := by decide +kernel
theorem dX4_readMost_20 : decode cX4_readMost 20 = .ok (.invokevirtual 106, 3) := by decide +kernel
theorem dX4_readMost_23 : decode cX4_readMost 23 = .ok (.pop, 1) := by decide +kernel
theorem dX4_readMost_24 : decode cX4_readMost 24 = .ok (.return_, 1) := by decide +kernel
theorem dX4_readKind_0 : decode cX4_readKind 0 = .ok (.aload_n 0, 1) := by decide +kernel
theorem dX4_readKind_1 : decode cX4_readKind 1 = .ok (.invokevirtual 25, 3) := by decide +kernel
theorem dX4_readKind_4 : decode cX4_readKind 4 = .ok (.iconst 0, 1) := by decide +kernel
theorem dX4_readKind_5 : decode cX4_readKind 5 = .ok (.istore_n 1, 1) := by decide +kernel
theorem dX4_readKind_6 : decode cX4_readKind 6 = .ok (.iload_n 1, 1) := by decide +kernel
theorem dX4_readKind_7 : decode cX4_readKind 7 = .ok (.iconst 5, 1) := by decide +kernel
theorem dX4_readKind_8 : decode cX4_readKind 8 = .ok (.if_icmp .gt 22, 3) := by decide +kernel
theorem dX4_readKind_11 : decode cX4_readKind 11 = .ok (.aload_n 0, 1) := by decide +kernel
theorem dX4_readKind_12 : decode cX4_readKind 12 = .ok (.iload_n 1, 1) := by decide +kernel
theorem dX4_readKind_13 : decode cX4_readKind 13 = .ok (.invokestatic 110, 3) := by decide +kernel
theorem dX4_readKind_16 : decode cX4_readKind 16 = .ok (.invokevirtual 49, 3) := by decide +kernel
theorem dX4_readKind_19 : decode cX4_readKind 19 = .ok (.ifCond .eq 5, 3) := by decide +kernel
theorem dX4_readKind_22 : decode cX4_readKind 22 = .ok (.iload_n 1, 1) := by decide +kernel
theorem dX4_readKind_23 : decode cX4_readKind 23 = .ok (.ireturn, 1) := by decide +kernel
theorem dX4_readKind_24 : decode cX4_readKind 24 = .ok (.iinc 1 1, 3) := by decide +kernel
theorem dX4_readKind_27 : decode cX4_readKind 27 = .ok (.goto (-21), 3) := by decide +kernel
theorem dX4_readKind_30 : decode cX4_readKind 30 = .ok (.aload_n 0, 1) := by decide +kernel
theorem dX4_readKind_31 : decode cX4_readKind 31 = .ok (.invokevirtual 44, 3) := by decide +kernel
theorem dX4_readKind_34 : decode cX4_readKind 34 = .ok (.iconst 0, 1) := by decide +kernel
theorem dX4_readKind_35 : decode cX4_readKind 35 = .ok (.ireturn, 1) := by decide +kernel
theorem dX4_wordOf_0 : decode cX4_wordOf 0 = .ok (.iload_n 0, 1) := by decide +kernel
theorem dX4_wordOf_1 : decode cX4_wordOf 1 = .ok (.tableswitch 50 1 5 #[35, 38, 41, 44, 47], 35) := by decide +kernel
theorem dX4_wordOf_36 : decode cX4_wordOf 36 = .ok (.ldc 114, 2) := by decide +kernel
theorem dX4_wordOf_38 : decode cX4_wordOf 38 = .ok (.areturn, 1) := by decide +kernel
theorem dX4_wordOf_39 : decode cX4_wordOf 39 = .ok (.ldc 116, 2) := by decide +kernel
theorem dX4_wordOf_41 : decode cX4_wordOf 41 = .ok (.areturn, 1) := by decide +kernel
theorem dX4_wordOf_42 : decode cX4_wordOf 42 = .ok (.ldc 118, 2) := by decide +kernel
theorem dX4_wordOf_44 : decode cX4_wordOf 44 = .ok (.areturn, 1) := by decide +kernel
theorem dX4_wordOf_45 : decode cX4_wordOf 45 = .ok (.ldc 120, 2) := by decide +kernel
theorem dX4_wordOf_47 : decode cX4_wordOf 47 = .ok (.areturn, 1) := by decide +kernel
theorem dX4_wordOf_48 : decode cX4_wordOf 48 = .ok (.ldc 122, 2) := by decide +kernel
theorem dX4_wordOf_50 : decode cX4_wordOf 50 = .ok (.areturn, 1) := by decide +kernel
theorem dX4_wordOf_51 : decode cX4_wordOf 51 = .ok (.ldc 124, 2) := by decide +kernel
theorem dX4_wordOf_53 : decode cX4_wordOf 53 = .ok (.areturn, 1) := by decide +kernel
theorem dX4_readNumber_0 : decode cX4_readNumber 0 = .ok (.aload_n 0, 1) := by decide +kernel
theorem dX4_readNumber_1 : decode cX4_readNumber 1 = .ok (.invokevirtual 25, 3) := by decide +kernel
theorem dX4_readNumber_4 : decode cX4_readNumber 4 = .ok (.aload_n 0, 1) := by decide +kernel
theorem dX4_readNumber_5 : decode cX4_readNumber 5 = .ok (.invokevirtual 126, 3) := by decide +kernel
theorem dX4_readNumber_8 : decode cX4_readNumber 8 = .ok (.istore_n 3, 1) := by decide +kernel
theorem dX4_readNumber_9 : decode cX4_readNumber 9 = .ok (.iload_n 3, 1) := by decide +kernel
theorem dX4_readNumber_10 : decode cX4_readNumber 10 = .ok (.iload_n 1, 1) := by decide +kernel
theorem dX4_readNumber_11 : decode cX4_readNumber 11 = .ok (.iload_n 2, 1) := by decide +kernel
theorem dX4_readNumber_12 : decode cX4_readNumber 12 = .ok (.invokestatic 129, 3) := by decide +kernel
theorem dX4_readNumber_15 : decode cX4_readNumber 15 = .ok (.ifCond .eq 7, 3) := by decide +kernel
theorem dX4_readNumber_18 : decode cX4_readNumber 18 = .ok (.aload_n 0, 1) := by decide +kernel
theorem dX4_readNumber_19 : decode cX4_readNumber 19 = .ok (.invokevirtual 44, 3) := by decide +kernel
theorem dX4_readNumber_22 : decode cX4_readNumber 22 = .ok (.iload_n 3, 1) := by decide +kernel
theorem dX4_readNumber_23 : decode cX4_readNumber 23 = .ok (.ireturn, 1) := by decide +kernel
theorem dX4_takenNumber_0 : decode cX4_takenNumber 0 = .ok (.aload_n 0, 1) := by decide +kernel
theorem dX4_takenNumber_1 : decode cX4_takenNumber 1 = .ok (.getfield 32, 3) := by decide +kernel
theorem dX4_takenNumber_4 : decode cX4_takenNumber 4 = .ok (.iconst 2, 1) := by decide +kernel
theorem dX4_takenNumber_5 : decode cX4_takenNumber 5 = .ok (.if_icmp .ne 16, 3) := by decide +kernel
theorem dX4_takenNumber_8 : decode cX4_takenNumber 8 = .ok (.aload_n 0, 1) := by decide +kernel
theorem dX4_takenNumber_9 : decode cX4_takenNumber 9 = .ok (.getfield 15, 3) := by decide +kernel
theorem dX4_takenNumber_12 : decode cX4_takenNumber 12 = .ok (.aload_n 0, 1) := by decide +kernel
theorem dX4_takenNumber_13 : decode cX4_takenNumber 13 = .ok (.getfield 41, 3) := by decide +kernel
theorem dX4_takenNumber_16 : decode cX4_takenNumber 16 = .ok (.isub, 1) := by decide +kernel
theorem dX4_takenNumber_17 : decode cX4_takenNumber 17 = .ok (.iconst 3, 1) := by decide +kernel
theorem dX4_takenNumber_18 : decode cX4_takenNumber 18 = .ok (.if_icmp .le 5, 3) := by decide +kernel
theorem dX4_takenNumber_21 : decode cX4_takenNumber 21 = .ok (.iconst (-1), 1) := by decide +kernel
theorem dX4_takenNumber_22 : decode cX4_takenNumber 22 = .ok (.ireturn, 1) := by decide +kernel
theorem dX4_takenNumber_23 : decode cX4_takenNumber 23 = .ok (.iconst 0, 1) := by decide +kernel
theorem dX4_takenNumber_24 : decode cX4_takenNumber 24 = .ok (.istore_n 1, 1) := by decide +kernel
theorem dX4_takenNumber_25 : decode cX4_takenNumber 25 = .ok (.aload_n 0, 1) := by decide +kernel
theorem dX4_takenNumber_26 : decode cX4_takenNumber 26 = .ok (.getfield 41, 3) := by decide +kernel
theorem dX4_takenNumber_29 : decode cX4_takenNumber 29 = .ok (.istore_n 2, 1) := by decide +kernel
theorem dX4_takenNumber_30 : decode cX4_takenNumber 30 = .ok (.iload_n 2, 1) := by decide +kernel
theorem dX4_takenNumber_31 : decode cX4_takenNumber 31 = .ok (.aload_n 0, 1) := by decide +kernel
theorem dX4_takenNumber_32 : decode cX4_takenNumber 32 = .ok (.getfield 15, 3) := by decide +kernel
theorem dX4_takenNumber_35 : decode cX4_takenNumber 35 = .ok (.if_icmp .ge 27, 3) := by decide +kernel
theorem dX4_takenNumber_38 : decode cX4_takenNumber 38 = .ok (.iload_n 1, 1) := by decide +kernel
theorem dX4_takenNumber_39 : decode cX4_takenNumber 39 = .ok (.bipush 10, 2) := by decide +kernel
theorem dX4_takenNumber_41 : decode cX4_takenNumber 41 = .ok (.imul, 1) := by decide +kernel
theorem dX4_takenNumber_42 : decode cX4_takenNumber 42 = .ok (.aload_n 0, 1) := by decide +kernel
theorem dX4_takenNumber_43 : decode cX4_takenNumber 43 = .ok (.getfield 9, 3) := by decide +kernel
theorem dX4_takenNumber_46 : decode cX4_takenNumber 46 = .ok (.getfield 35, 3) := by decide +kernel
theorem dX4_takenNumber_49 : decode cX4_takenNumber 49 = .ok (.iload_n 2, 1) := by decide +kernel
theorem dX4_takenNumber_50 : decode cX4_takenNumber 50 = .ok (.baload, 1) := by decide +kernel
theorem dX4_takenNumber_51 : decode cX4_takenNumber 51 = .ok (.iadd, 1) := by decide +kernel
theorem dX4_takenNumber_52 : decode cX4_takenNumber 52 = .ok (.bipush 48, 2) := by decide +kernel
theorem dX4_takenNumber_54 : decode cX4_takenNumber 54 = .ok (.isub, 1) := by decide +kernel
theorem dX4_takenNumber_55 : decode cX4_takenNumber 55 = .ok (.istore_n 1, 1) := by decide +kernel
theorem dX4_takenNumber_56 : decode cX4_takenNumber 56 = .ok (.iinc 2 1, 3) := by decide +kernel
theorem dX4_takenNumber_59 : decode cX4_takenNumber 59 = .ok (.goto (-29), 3) := by decide +kernel
theorem dX4_takenNumber_62 : decode cX4_takenNumber 62 = .ok (.iload_n 1, 1) := by decide +kernel
theorem dX4_takenNumber_63 : decode cX4_takenNumber 63 = .ok (.ireturn, 1) := by decide +kernel
theorem dX4_isWord_0 : decode cX4_isWord 0 = .ok (.aload_n 0, 1) := by decide +kernel
theorem dX4_isWord_1 : decode cX4_isWord 1 = .ok (.getfield 32, 3) := by decide +kernel
theorem dX4_isWord_4 : decode cX4_isWord 4 = .ok (.iconst 1, 1) := by decide +kernel
theorem dX4_isWord_5 : decode cX4_isWord 5 = .ok (.if_icmp .ne 19, 3) := by decide +kernel
theorem dX4_isWord_8 : decode cX4_isWord 8 = .ok (.aload_n 0, 1) := by decide +kernel
theorem dX4_isWord_9 : decode cX4_isWord 9 = .ok (.getfield 15, 3) := by decide +kernel
theorem dX4_isWord_12 : decode cX4_isWord 12 = .ok (.aload_n 0, 1) := by decide +kernel
theorem dX4_isWord_13 : decode cX4_isWord 13 = .ok (.getfield 41, 3) := by decide +kernel
theorem dX4_isWord_16 : decode cX4_isWord 16 = .ok (.isub, 1) := by decide +kernel
theorem dX4_isWord_17 : decode cX4_isWord 17 = .ok (.aload_n 1, 1) := by decide +kernel
theorem dX4_isWord_18 : decode cX4_isWord 18 = .ok (.invokevirtual 133, 3) := by decide +kernel
theorem dX4_isWord_21 : decode cX4_isWord 21 = .ok (.if_icmp .eq 5, 3) := by decide +kernel
theorem dX4_isWord_24 : decode cX4_isWord 24 = .ok (.iconst 0, 1) := by decide +kernel
theorem dX4_isWord_25 : decode cX4_isWord 25 = .ok (.ireturn, 1) := by decide +kernel
theorem dX4_isWord_26 : decode cX4_isWord 26 = .ok (.iconst 0, 1) := by decide +kernel
theorem dX4_isWord_27 : decode cX4_isWord 27 = .ok (.istore_n 2, 1) := by decide +kernel
theorem dX4_isWord_28 : decode cX4_isWord 28 = .ok (.iload_n 2, 1) := by decide +kernel
theorem dX4_isWord_29 : decode cX4_isWord 29 = .ok (.aload_n 1, 1) := by decide +kernel
theorem dX4_isWord_30 : decode cX4_isWord 30 = .ok (.invokevirtual 133, 3) := by decide +kernel
theorem dX4_isWord_33 : decode cX4_isWord 33 = .ok (.if_icmp .ge 33, 3) := by decide +kernel
theorem dX4_isWord_36 : decode cX4_isWord 36 = .ok (.aload_n 0, 1) := by decide +kernel
theorem dX4_isWord_37 : decode cX4_isWord 37 = .ok (.getfield 9, 3) := by decide +kernel
theorem dX4_isWord_40 : decode cX4_isWord 40 = .ok (.getfield 35, 3) := by decide +kernel
theorem dX4_isWord_43 : decode cX4_isWord 43 = .ok (.aload_n 0, 1) := by decide +kernel
theorem dX4_isWord_44 : decode cX4_isWord 44 = .ok (.getfield 41, 3) := by decide +kernel
theorem dX4_isWord_47 : decode cX4_isWord 47 = .ok (.iload_n 2, 1) := by decide +kernel
theorem dX4_isWord_48 : decode cX4_isWord 48 = .ok (.iadd, 1) := by decide +kernel
theorem dX4_isWord_49 : decode cX4_isWord 49 = .ok (.baload, 1) := by decide +kernel
theorem dX4_isWord_50 : decode cX4_isWord 50 = .ok (.aload_n 1, 1) := by decide +kernel
theorem dX4_isWord_51 : decode cX4_isWord 51 = .ok (.iload_n 2, 1) := by decide +kernel
theorem dX4_isWord_52 : decode cX4_isWord 52 = .ok (.invokevirtual 138, 3) := by decide +kernel
theorem dX4_isWord_55 : decode cX4_isWord 55 = .ok (.if_icmp .eq 5, 3) := by decide +kernel
theorem dX4_isWord_58 : decode cX4_isWord 58 = .ok (.iconst 0, 1) := by decide +kernel
theorem dX4_isWord_59 : decode cX4_isWord 59 = .ok (.ireturn, 1) := by decide +kernel
theorem dX4_isWord_60 : decode cX4_isWord 60 = .ok (.iinc 2 1, 3) := by decide +kernel
theorem dX4_isWord_63 : decode cX4_isWord 63 = .ok (.goto (-35), 3) := by decide +kernel
theorem dX4_isWord_66 : decode cX4_isWord 66 = .ok (.iconst 1, 1) := by decide +kernel
theorem dX4_isWord_67 : decode cX4_isWord 67 = .ok (.ireturn, 1) := by decide +kernel
theorem dX4_advance_0 : decode cX4_advance 0 = .ok (.aload_n 0, 1) := by decide +kernel
theorem dX4_advance_1 : decode cX4_advance 1 = .ok (.invokevirtual 28, 3) := by decide +kernel
theorem dX4_advance_4 : decode cX4_advance 4 = .ok (.ifCond .ne 4, 3) := by decide +kernel
theorem dX4_advance_7 : decode cX4_advance 7 = .ok (.return_, 1) := by decide +kernel
theorem dX4_advance_8 : decode cX4_advance 8 = .ok (.aload_n 0, 1) := by decide +kernel
theorem dX4_advance_9 : decode cX4_advance 9 = .ok (.getfield 15, 3) := by decide +kernel
theorem dX4_advance_12 : decode cX4_advance 12 = .ok (.aload_n 0, 1) := by decide +kernel
theorem dX4_advance_13 : decode cX4_advance 13 = .ok (.getfield 9, 3) := by decide +kernel
theorem dX4_advance_16 : decode cX4_advance 16 = .ok (.getfield 142, 3) := by decide +kernel
theorem dX4_advance_19 : decode cX4_advance 19 = .ok (.if_icmp .ge 33, 3) := by decide +kernel
theorem dX4_advance_22 : decode cX4_advance 22 = .ok (.aload_n 0, 1) := by decide +kernel
theorem dX4_advance_23 : decode cX4_advance 23 = .ok (.getfield 9, 3) := by decide +kernel
theorem dX4_advance_26 : decode cX4_advance 26 = .ok (.getfield 35, 3) := by decide +kernel
theorem dX4_advance_29 : decode cX4_advance 29 = .ok (.aload_n 0, 1) := by decide +kernel
theorem dX4_advance_30 : decode cX4_advance 30 = .ok (.getfield 15, 3) := by decide +kernel
theorem dX4_advance_33 : decode cX4_advance 33 = .ok (.baload, 1) := by decide +kernel
theorem dX4_advance_34 : decode cX4_advance 34 = .ok (.bipush 32, 2) := by decide +kernel
theorem dX4_advance_36 : decode cX4_advance 36 = .ok (.if_icmp .ne 16, 3) := by decide +kernel
theorem dX4_advance_39 : decode cX4_advance 39 = .ok (.aload_n 0, 1) := by decide +kernel
theorem dX4_advance_40 : decode cX4_advance 40 = .ok (.dup, 1) := by decide +kernel
theorem dX4_advance_41 : decode cX4_advance 41 = .ok (.getfield 15, 3) := by decide +kernel
theorem dX4_advance_44 : decode cX4_advance 44 = .ok (.iconst 1, 1) := by decide +kernel
theorem dX4_advance_45 : decode cX4_advance 45 = .ok (.iadd, 1) := by decide +kernel
theorem dX4_advance_46 : decode cX4_advance 46 = .ok (.putfield 15, 3) := by decide +kernel
theorem dX4_advance_49 : decode cX4_advance 49 = .ok (.goto (-41), 3) := by decide +kernel
theorem dX4_advance_52 : decode cX4_advance 52 = .ok (.aload_n 0, 1) := by decide +kernel
theorem dX4_advance_53 : decode cX4_advance 53 = .ok (.aload_n 0, 1) := by decide +kernel
theorem dX4_advance_54 : decode cX4_advance 54 = .ok (.getfield 15, 3) := by decide +kernel
theorem dX4_advance_57 : decode cX4_advance 57 = .ok (.putfield 41, 3) := by decide +kernel
theorem dX4_advance_60 : decode cX4_advance 60 = .ok (.aload_n 0, 1) := by decide +kernel
theorem dX4_advance_61 : decode cX4_advance 61 = .ok (.getfield 15, 3) := by decide +kernel
theorem dX4_advance_64 : decode cX4_advance 64 = .ok (.aload_n 0, 1) := by decide +kernel
theorem dX4_advance_65 : decode cX4_advance 65 = .ok (.getfield 9, 3) := by decide +kernel
theorem dX4_advance_68 : decode cX4_advance 68 = .ok (.getfield 142, 3) := by decide +kernel
theorem dX4_advance_71 : decode cX4_advance 71 = .ok (.if_icmp .lt 9, 3) := by decide +kernel
theorem dX4_advance_74 : decode cX4_advance 74 = .ok (.aload_n 0, 1) := by decide +kernel
theorem dX4_advance_75 : decode cX4_advance 75 = .ok (.iconst 0, 1) := by decide +kernel
theorem dX4_advance_76 : decode cX4_advance 76 = .ok (.putfield 32, 3) := by decide +kernel
theorem dX4_advance_79 : decode cX4_advance 79 = .ok (.return_, 1) := by decide +kernel
theorem dX4_advance_80 : decode cX4_advance 80 = .ok (.aload_n 0, 1) := by decide +kernel
theorem dX4_advance_81 : decode cX4_advance 81 = .ok (.aload_n 0, 1) := by decide +kernel
theorem dX4_advance_82 : decode cX4_advance 82 = .ok (.aload_n 0, 1) := by decide +kernel
theorem dX4_advance_83 : decode cX4_advance 83 = .ok (.getfield 15, 3) := by decide +kernel
theorem dX4_advance_86 : decode cX4_advance 86 = .ok (.invokevirtual 145, 3) := by decide +kernel
theorem dX4_advance_89 : decode cX4_advance 89 = .ok (.putfield 32, 3) := by decide +kernel
theorem dX4_advance_92 : decode cX4_advance 92 = .ok (.aload_n 0, 1) := by decide +kernel
theorem dX4_advance_93 : decode cX4_advance 93 = .ok (.dup, 1) := by decide +kernel
theorem dX4_advance_94 : decode cX4_advance 94 = .ok (.getfield 15, 3) := by decide +kernel
theorem dX4_advance_97 : decode cX4_advance 97 = .ok (.iconst 1, 1) := by decide +kernel
theorem dX4_advance_98 : decode cX4_advance 98 = .ok (.iadd, 1) := by decide +kernel
theorem dX4_advance_99 : decode cX4_advance 99 = .ok (.putfield 15, 3) := by decide +kernel
theorem dX4_advance_102 : decode cX4_advance 102 = .ok (.aload_n 0, 1) := by decide +kernel
theorem dX4_advance_103 : decode cX4_advance 103 = .ok (.getfield 32, 3) := by decide +kernel
theorem dX4_advance_106 : decode cX4_advance 106 = .ok (.iconst 3, 1) := by decide +kernel
theorem dX4_advance_107 : decode cX4_advance 107 = .ok (.if_icmp .eq 45, 3) := by decide +kernel
theorem dX4_advance_110 : decode cX4_advance 110 = .ok (.aload_n 0, 1) := by decide +kernel
theorem dX4_advance_111 : decode cX4_advance 111 = .ok (.getfield 15, 3) := by decide +kernel
theorem dX4_advance_114 : decode cX4_advance 114 = .ok (.aload_n 0, 1) := by decide +kernel
theorem dX4_advance_115 : decode cX4_advance 115 = .ok (.getfield 9, 3) := by decide +kernel
theorem dX4_advance_118 : decode cX4_advance 118 = .ok (.getfield 142, 3) := by decide +kernel
theorem dX4_advance_121 : decode cX4_advance 121 = .ok (.if_icmp .ge 31, 3) := by decide +kernel
theorem dX4_advance_124 : decode cX4_advance 124 = .ok (.aload_n 0, 1) := by decide +kernel
theorem dX4_advance_125 : decode cX4_advance 125 = .ok (.aload_n 0, 1) := by decide +kernel
theorem dX4_advance_126 : decode cX4_advance 126 = .ok (.getfield 15, 3) := by decide +kernel
theorem dX4_advance_129 : decode cX4_advance 129 = .ok (.invokevirtual 145, 3) := by decide +kernel
theorem dX4_advance_132 : decode cX4_advance 132 = .ok (.aload_n 0, 1) := by decide +kernel
theorem dX4_advance_133 : decode cX4_advance 133 = .ok (.getfield 32, 3) := by decide +kernel
theorem dX4_advance_136 : decode cX4_advance 136 = .ok (.if_icmp .ne 16, 3) := by decide +kernel
theorem dX4_advance_139 : decode cX4_advance 139 = .ok (.aload_n 0, 1) := by decide +kernel
theorem dX4_advance_140 : decode cX4_advance 140 = .ok (.dup, 1) := by decide +kernel
theorem dX4_advance_141 : decode cX4_advance 141 = .ok (.getfield 15, 3) := by decide +kernel
theorem dX4_advance_144 : decode cX4_advance 144 = .ok (.iconst 1, 1) := by decide +kernel
theorem dX4_advance_145 : decode cX4_advance 145 = .ok (.iadd, 1) := by decide +kernel
theorem dX4_advance_146 : decode cX4_advance 146 = .ok (.putfield 15, 3) := by decide +kernel
theorem dX4_advance_149 : decode cX4_advance 149 = .ok (.goto (-47), 3) := by decide +kernel
theorem dX4_advance_152 : decode cX4_advance 152 = .ok (.return_, 1) := by decide +kernel
theorem dX4_typeAt_0 : decode cX4_typeAt 0 = .ok (.aload_n 0, 1) := by decide +kernel
theorem dX4_typeAt_1 : decode cX4_typeAt 1 = .ok (.getfield 9, 3) := by decide +kernel
theorem dX4_typeAt_4 : decode cX4_typeAt 4 = .ok (.getfield 35, 3) := by decide +kernel
theorem dX4_typeAt_7 : decode cX4_typeAt 7 = .ok (.iload_n 1, 1) := by decide +kernel
theorem dX4_typeAt_8 : decode cX4_typeAt 8 = .ok (.baload, 1) := by decide +kernel
theorem dX4_typeAt_9 : decode cX4_typeAt 9 = .ok (.istore_n 2, 1) := by decide +kernel
theorem dX4_typeAt_10 : decode cX4_typeAt 10 = .ok (.iload_n 2, 1) := by decide +kernel
theorem dX4_typeAt_11 : decode cX4_typeAt 11 = .ok (.bipush 97, 2) := by decide +kernel
theorem dX4_typeAt_13 : decode cX4_typeAt 13 = .ok (.if_icmp .lt 11, 3) := by decide +kernel
theorem dX4_typeAt_16 : decode cX4_typeAt 16 = .ok (.iload_n 2, 1) := by decide +kernel
theorem dX4_typeAt_17 : decode cX4_typeAt 17 = .ok (.bipush 122, 2) := by decide +kernel
theorem dX4_typeAt_19 : decode cX4_typeAt 19 = .ok (.if_icmp .gt 5, 3) := by decide +kernel
theorem dX4_typeAt_22 : decode cX4_typeAt 22 = .ok (.iconst 1, 1) := by decide +kernel
theorem dX4_typeAt_23 : decode cX4_typeAt 23 = .ok (.ireturn, 1) := by decide +kernel
theorem dX4_typeAt_24 : decode cX4_typeAt 24 = .ok (.iload_n 2, 1) := by decide +kernel
theorem dX4_typeAt_25 : decode cX4_typeAt 25 = .ok (.bipush 48, 2) := by decide +kernel
theorem dX4_typeAt_27 : decode cX4_typeAt 27 = .ok (.if_icmp .lt 13, 3) := by decide +kernel
theorem dX4_typeAt_30 : decode cX4_typeAt 30 = .ok (.iload_n 2, 1) := by decide +kernel
theorem dX4_typeAt_31 : decode cX4_typeAt 31 = .ok (.bipush 57, 2) := by decide +kernel
theorem dX4_typeAt_33 : decode cX4_typeAt 33 = .ok (.if_icmp .gt 7, 3) := by decide +kernel
theorem dX4_typeAt_36 : decode cX4_typeAt 36 = .ok (.iconst 2, 1) := by decide +kernel
theorem dX4_typeAt_37 : decode cX4_typeAt 37 = .ok (.goto 4, 3) := by decide +kernel
theorem dX4_typeAt_40 : decode cX4_typeAt 40 = .ok (.iconst 3, 1) := by decide +kernel
theorem dX4_typeAt_41 : decode cX4_typeAt 41 = .ok (.ireturn, 1) := by decide +kernel
