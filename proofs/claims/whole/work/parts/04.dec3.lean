theorem dX11_init_0 : decode cX11_init 0 = .ok (.aload_n 0, 1) := by decide +kernel
theorem dX11_init_1 : decode cX11_init 1 = .ok (.invokespecial 3, 3) := by decide +kernel
theorem dX11_init_4 : decode cX11_init 4 = .ok (.aload_n 0, 1) := by decide +kernel
theorem dX11_init_5 : decode cX11_init 5 = .ok (.sipush 553, 3) := by decide +kernel
theorem dX11_init_8 : decode cX11_init 8 = .ok (.newarray .int, 2) := by decide +kernel
theorem dX11_init_10 : decode cX11_init 10 = .ok (.putfield 9, 3) := by decide +kernel
theorem dX11_init_13 : decode cX11_init 13 = .ok (.aload_n 0, 1) := by decide +kernel
theorem dX11_init_14 : decode cX11_init 14 = .ok (.sipush 553, 3) := by decide +kernel
theorem dX11_init_17 : decode cX11_init 17 = .ok (.newarray .int, 2) := by decide +kernel
theorem dX11_init_19 : decode cX11_init 19 = .ok (.putfield 13, 3) := by decide +kernel
theorem dX11_init_22 : decode cX11_init 22 = .ok (.aload_n 0, 1) := by decide +kernel
theorem dX11_init_23 : decode cX11_init 23 = .ok (.sipush 553, 3) := by decide +kernel
theorem dX11_init_26 : decode cX11_init 26 = .ok (.newarray .int, 2) := by decide +kernel
theorem dX11_init_28 : decode cX11_init 28 = .ok (.putfield 16, 3) := by decide +kernel
theorem dX11_init_31 : decode cX11_init 31 = .ok (.aload_n 0, 1) := by decide +kernel
theorem dX11_init_32 : decode cX11_init 32 = .ok (.bipush 7, 2) := by decide +kernel
theorem dX11_init_34 : decode cX11_init 34 = .ok (.newarray .int, 2) := by decide +kernel
theorem dX11_init_36 : decode cX11_init 36 = .ok (.putfield 19, 3) := by decide +kernel
theorem dX11_init_39 : decode cX11_init 39 = .ok (.aload_n 0, 1) := by decide +kernel
theorem dX11_init_40 : decode cX11_init 40 = .ok (.bipush 6, 2) := by decide +kernel
theorem dX11_init_42 : decode cX11_init 42 = .ok (.anewarray 22, 3) := by decide +kernel
theorem dX11_init_45 : decode cX11_init 45 = .ok (.dup, 1) := by decide +kernel
theorem dX11_init_46 : decode cX11_init 46 = .ok (.iconst 0, 1) := by decide +kernel
theorem dX11_init_47 : decode cX11_init 47 = .ok (.ldc 24, 2) := by decide +kernel
theorem dX11_init_49 : decode cX11_init 49 = .ok (.aastore, 1) := by decide +kernel
theorem dX11_init_50 : decode cX11_init 50 = .ok (.dup, 1) := by decide +kernel
theorem dX11_init_51 : decode cX11_init 51 = .ok (.iconst 1, 1) := by decide +kernel
theorem dX11_init_52 : decode cX11_init 52 = .ok (.ldc 26, 2) := by decide +kernel
theorem dX11_init_54 : decode cX11_init 54 = .ok (.aastore, 1) := by decide +kernel
theorem dX11_init_55 : decode cX11_init 55 = .ok (.dup, 1) := by decide +kernel
theorem dX11_init_56 : decode cX11_init 56 = .ok (.iconst 2, 1) := by decide +kernel
theorem dX11_init_57 : decode cX11_init 57 = .ok (.ldc 28, 2) := by decide +kernel
theorem dX11_init_59 : decode cX11_init 59 = .ok (.aastore, 1) := by decide +kernel
theorem dX11_init_60 : decode cX11_init 60 = .ok (.dup, 1) := by decide +kernel
theorem dX11_init_61 : decode cX11_init 61 = .ok (.iconst 3, 1) := by decide +kernel
theorem dX11_init_62 : decode cX11_init 62 = .ok (.ldc 30, 2) := by decide +kernel
theorem dX11_init_64 : decode cX11_init 64 = .ok (.aastore, 1) := by decide +kernel
theorem dX11_init_65 : decode cX11_init 65 = .ok (.dup, 1) := by decide +kernel
theorem dX11_init_66 : decode cX11_init 66 = .ok (.iconst 4, 1) := by decide +kernel
theorem dX11_init_67 : decode cX11_init 67 = .ok (.ldc 32, 2) := by decide +kernel
theorem dX11_init_69 : decode cX11_init 69 = .ok (.aastore, 1) := by decide +kernel
theorem dX11_init_70 : decode cX11_init 70 = .ok (.dup, 1) := by decide +kernel
theorem dX11_init_71 : decode cX11_init 71 = .ok (.iconst 5, 1) := by decide +kernel
theorem dX11_init_72 : decode cX11_init 72 = .ok (.ldc 34, 2) := by decide +kernel
theorem dX11_init_74 : decode cX11_init 74 = .ok (.aastore, 1) := by decide +kernel
theorem dX11_init_75 : decode cX11_init 75 = .ok (.putfield 36, 3) := by decide +kernel
theorem dX11_init_78 : decode cX11_init 78 = .ok (.aload_n 0, 1) := by decide +kernel
theorem dX11_init_79 : decode cX11_init 79 = .ok (.sipush 4096, 3) := by decide +kernel
theorem dX11_init_82 : decode cX11_init 82 = .ok (.newarray .int, 2) := by decide +kernel
theorem dX11_init_84 : decode cX11_init 84 = .ok (.putfield 40, 3) := by decide +kernel
theorem dX11_init_87 : decode cX11_init 87 = .ok (.aload_n 0, 1) := by decide +kernel
theorem dX11_init_88 : decode cX11_init 88 = .ok (.sipush 4096, 3) := by decide +kernel
theorem dX11_init_91 : decode cX11_init 91 = .ok (.newarray .int, 2) := by decide +kernel
theorem dX11_init_93 : decode cX11_init 93 = .ok (.putfield 43, 3) := by decide +kernel
theorem dX11_init_96 : decode cX11_init 96 = .ok (.aload_n 0, 1) := by decide +kernel
theorem dX11_init_97 : decode cX11_init 97 = .ok (.bipush 14, 2) := by decide +kernel
theorem dX11_init_99 : decode cX11_init 99 = .ok (.newarray .int, 2) := by decide +kernel
theorem dX11_init_101 : decode cX11_init 101 = .ok (.putfield 46, 3) := by decide +kernel
theorem dX11_init_104 : decode cX11_init 104 = .ok (.aload_n 0, 1) := by decide +kernel
theorem dX11_init_105 : decode cX11_init 105 = .ok (.sipush 4096, 3) := by decide +kernel
theorem dX11_init_108 : decode cX11_init 108 = .ok (.newarray .int, 2) := by decide +kernel
theorem dX11_init_110 : decode cX11_init 110 = .ok (.putfield 49, 3) := by decide +kernel
theorem dX11_init_113 : decode cX11_init 113 = .ok (.aload_n 0, 1) := by decide +kernel
theorem dX11_init_114 : decode cX11_init 114 = .ok (.sipush 768, 3) := by decide +kernel
theorem dX11_init_117 : decode cX11_init 117 = .ok (.newarray .int, 2) := by decide +kernel
theorem dX11_init_119 : decode cX11_init 119 = .ok (.putfield 52, 3) := by decide +kernel
theorem dX11_init_122 : decode cX11_init 122 = .ok (.aload_n 0, 1) := by decide +kernel
theorem dX11_init_123 : decode cX11_init 123 = .ok (.iconst 3, 1) := by decide +kernel
theorem dX11_init_124 : decode cX11_init 124 = .ok (.newarray .int, 2) := by decide +kernel
theorem dX11_init_126 : decode cX11_init 126 = .ok (.putfield 55, 3) := by decide +kernel
theorem dX11_init_129 : decode cX11_init 129 = .ok (.aload_n 0, 1) := by decide +kernel
theorem dX11_init_130 : decode cX11_init 130 = .ok (.bipush 8, 2) := by decide +kernel
theorem dX11_init_132 : decode cX11_init 132 = .ok (.newarray .int, 2) := by decide +kernel
theorem dX11_init_134 : decode cX11_init 134 = .ok (.putfield 58, 3) := by decide +kernel
theorem dX11_init_137 : decode cX11_init 137 = .ok (.aload_n 0, 1) := by decide +kernel
theorem dX11_init_138 : decode cX11_init 138 = .ok (.sipush 256, 3) := by decide +kernel
theorem dX11_init_141 : decode cX11_init 141 = .ok (.newarray .int, 2) := by decide +kernel
theorem dX11_init_143 : decode cX11_init 143 = .ok (.putfield 61, 3) := by decide +kernel
theorem dX11_init_146 : decode cX11_init 146 = .ok (.aload_n 0, 1) := by decide +kernel
theorem dX11_init_147 : decode cX11_init 147 = .ok (.sipush 4096, 3) := by decide +kernel
theorem dX11_init_150 : decode cX11_init 150 = .ok (.newarray .int, 2) := by decide +kernel
theorem dX11_init_152 : decode cX11_init 152 = .ok (.putfield 64, 3) := by decide +kernel
theorem dX11_init_155 : decode cX11_init 155 = .ok (.aload_n 0, 1) := by decide +kernel
theorem dX11_init_156 : decode cX11_init 156 = .ok (.bipush 30, 2) := by decide +kernel
theorem dX11_init_158 : decode cX11_init 158 = .ok (.newarray .int, 2) := by decide +kernel
theorem dX11_init_160 : decode cX11_init 160 = .ok (.putfield 67, 3) := by decide +kernel
theorem dX11_init_163 : decode cX11_init 163 = .ok (.aload_n 0, 1) := by decide +kernel
theorem dX11_init_164 : decode cX11_init 164 = .ok (.iconst 4, 1) := by decide +kernel
theorem dX11_init_165 : decode cX11_init 165 = .ok (.newarray .int, 2) := by decide +kernel
theorem dX11_init_167 : decode cX11_init 167 = .ok (.putfield 70, 3) := by decide +kernel
theorem dX11_init_170 : decode cX11_init 170 = .ok (.aload_n 0, 1) := by decide +kernel
theorem dX11_init_171 : decode cX11_init 171 = .ok (.iconst 4, 1) := by decide +kernel
theorem dX11_init_172 : decode cX11_init 172 = .ok (.newarray .int, 2) := by decide +kernel
theorem dX11_init_174 : decode cX11_init 174 = .ok (.putfield 73, 3) := by decide +kernel
theorem dX11_init_177 : decode cX11_init 177 = .ok (.aload_n 0, 1) := by decide +kernel
theorem dX11_init_178 : decode cX11_init 178 = .ok (.bipush 96, 2) := by decide +kernel
theorem dX11_init_180 : decode cX11_init 180 = .ok (.newarray .int, 2) := by decide +kernel
theorem dX11_init_182 : decode cX11_init 182 = .ok (.putfield 76, 3) := by decide +kernel
theorem dX11_init_185 : decode cX11_init 185 = .ok (.aload_n 0, 1) := by decide +kernel
theorem dX11_init_186 : decode cX11_init 186 = .ok (.bipush 24, 2) := by decide +kernel
theorem dX11_init_188 : decode cX11_init 188 = .ok (.newarray .int, 2) := by decide +kernel
theorem dX11_init_190 : decode cX11_init 190 = .ok (.putfield 79, 3) := by decide +kernel
theorem dX11_init_193 : decode cX11_init 193 = .ok (.aload_n 0, 1) := by decide +kernel
theorem dX11_init_194 : decode cX11_init 194 = .ok (.getfield 9, 3) := by decide +kernel
theorem dX11_init_197 : decode cX11_init 197 = .ok (.iconst 2, 1) := by decide +kernel
theorem dX11_init_198 : decode cX11_init 198 = .ok (.bipush 12, 2) := by decide +kernel
theorem dX11_init_200 : decode cX11_init 200 = .ok (.iastore, 1) := by decide +kernel
theorem dX11_init_201 : decode cX11_init 201 = .ok (.return_, 1) := by decide +kernel
theorem dX11_finding_0 : decode cX11_finding 0 = .ok (.aload_n 0, 1) := by decide +kernel
theorem dX11_finding_1 : decode cX11_finding 1 = .ok (.getfield 19, 3) := by decide +kernel
theorem dX11_finding_4 : decode cX11_finding 4 = .ok (.ldc 82, 2) := by decide +kernel
theorem dX11_finding_6 : decode cX11_finding 6 = .ok (.iload_n 1, 1) := by decide +kernel
theorem dX11_finding_7 : decode cX11_finding 7 = .ok (.isub, 1) := by decide +kernel
theorem dX11_finding_8 : decode cX11_finding 8 = .ok (.dup2, 1) := by decide +kernel
theorem dX11_finding_9 : decode cX11_finding 9 = .ok (.iaload, 1) := by decide +kernel
theorem dX11_finding_10 : decode cX11_finding 10 = .ok (.iconst 1, 1) := by decide +kernel
theorem dX11_finding_11 : decode cX11_finding 11 = .ok (.iadd, 1) := by decide +kernel
theorem dX11_finding_12 : decode cX11_finding 12 = .ok (.iastore, 1) := by decide +kernel
theorem dX11_finding_13 : decode cX11_finding 13 = .ok (.iload_n 1, 1) := by decide +kernel
theorem dX11_finding_14 : decode cX11_finding 14 = .ok (.ireturn, 1) := by decide +kernel
theorem dX11_within_0 : decode cX11_within 0 = .ok (.iload_n 0, 1) := by decide +kernel
theorem dX11_within_1 : decode cX11_within 1 = .ok (.iload_n 1, 1) := by decide +kernel
theorem dX11_within_2 : decode cX11_within 2 = .ok (.if_icmp .lt 12, 3) := by decide +kernel
theorem dX11_within_5 : decode cX11_within 5 = .ok (.iload_n 0, 1) := by decide +kernel
theorem dX11_within_6 : decode cX11_within 6 = .ok (.iload_n 2, 1) := by decide +kernel
theorem dX11_within_7 : decode cX11_within 7 = .ok (.if_icmp .gt 7, 3) := by decide +kernel
theorem dX11_within_10 : decode cX11_within 10 = .ok (.iconst 1, 1) := by decide +kernel
theorem dX11_within_11 : decode cX11_within 11 = .ok (.goto 4, 3) := by decide +kernel
theorem dX11_within_14 : decode cX11_within 14 = .ok (.iconst 0, 1) := by decide +kernel
theorem dX11_within_15 : decode cX11_within 15 = .ok (.ireturn, 1) := by decide +kernel
theorem dX11_is_0 : decode cX11_is 0 = .ok (.iload_n 1, 1) := by decide +kernel
theorem dX11_is_1 : decode cX11_is 1 = .ok (.iconst 0, 1) := by decide +kernel
theorem dX11_is_2 : decode cX11_is 2 = .ok (.aload_n 0, 1) := by decide +kernel
theorem dX11_is_3 : decode cX11_is 3 = .ok (.getfield 9, 3) := by decide +kernel
theorem dX11_is_6 : decode cX11_is 6 = .ok (.iload_n 2, 1) := by decide +kernel
theorem dX11_is_7 : decode cX11_is 7 = .ok (.iaload, 1) := by decide +kernel
theorem dX11_is_8 : decode cX11_is 8 = .ok (.iconst 1, 1) := by decide +kernel
theorem dX11_is_9 : decode cX11_is 9 = .ok (.isub, 1) := by decide +kernel
theorem dX11_is_10 : decode cX11_is 10 = .ok (.invokestatic 83, 3) := by decide +kernel
theorem dX11_is_13 : decode cX11_is 13 = .ok (.ireturn, 1) := by decide +kernel
theorem dX11_has_0 : decode cX11_has 0 = .ok (.iload_n 0, 1) := by decide +kernel
theorem dX11_has_1 : decode cX11_has 1 = .ok (.iload_n 1, 1) := by decide +kernel
theorem dX11_has_2 : decode cX11_has 2 = .ok (.ishr, 1) := by decide +kernel
theorem dX11_has_3 : decode cX11_has 3 = .ok (.iconst 1, 1) := by decide +kernel
theorem dX11_has_4 : decode cX11_has 4 = .ok (.iand, 1) := by decide +kernel
theorem dX11_has_5 : decode cX11_has 5 = .ok (.iconst 1, 1) := by decide +kernel
theorem dX11_has_6 : decode cX11_has 6 = .ok (.if_icmp .ne 7, 3) := by decide +kernel
theorem dX11_has_9 : decode cX11_has 9 = .ok (.iconst 1, 1) := by decide +kernel
theorem dX11_has_10 : decode cX11_has 10 = .ok (.goto 4, 3) := by decide +kernel
theorem dX11_has_13 : decode cX11_has 13 = .ok (.iconst 0, 1) := by decide +kernel
theorem dX11_has_14 : decode cX11_has 14 = .ok (.ireturn, 1) := by decide +kernel
theorem dX11_bits_0 : decode cX11_bits 0 = .ok (.iconst 0, 1) := by decide +kernel
theorem dX11_bits_1 : decode cX11_bits 1 = .ok (.istore_n 1, 1) := by decide +kernel
theorem dX11_bits_2 : decode cX11_bits 2 = .ok (.iconst 0, 1) := by decide +kernel
theorem dX11_bits_3 : decode cX11_bits 3 = .ok (.istore_n 2, 1) := by decide +kernel
theorem dX11_bits_4 : decode cX11_bits 4 = .ok (.iload_n 2, 1) := by decide +kernel
theorem dX11_bits_5 : decode cX11_bits 5 = .ok (.bipush 12, 2) := by decide +kernel
theorem dX11_bits_7 : decode cX11_bits 7 = .ok (.if_icmp .ge 17, 3) := by decide +kernel
theorem dX11_bits_10 : decode cX11_bits 10 = .ok (.iload_n 1, 1) := by decide +kernel
theorem dX11_bits_11 : decode cX11_bits 11 = .ok (.iload_n 0, 1) := by decide +kernel
theorem dX11_bits_12 : decode cX11_bits 12 = .ok (.iload_n 2, 1) := by decide +kernel
theorem dX11_bits_13 : decode cX11_bits 13 = .ok (.ishr, 1) := by decide +kernel
theorem dX11_bits_14 : decode cX11_bits 14 = .ok (.iconst 1, 1) := by decide +kernel
theorem dX11_bits_15 : decode cX11_bits 15 = .ok (.iand, 1) := by decide +kernel
theorem dX11_bits_16 : decode cX11_bits 16 = .ok (.iadd, 1) := by decide +kernel
theorem dX11_bits_17 : decode cX11_bits 17 = .ok (.istore_n 1, 1) := by decide +kernel
theorem dX11_bits_18 : decode cX11_bits 18 = .ok (.iinc 2 1, 3) := by decide +kernel
theorem dX11_bits_21 : decode cX11_bits 21 = .ok (.goto (-17), 3) := by decide +kernel
theorem dX11_bits_24 : decode cX11_bits 24 = .ok (.iload_n 1, 1) := by decide +kernel
theorem dX11_bits_25 : decode cX11_bits 25 = .ok (.ireturn, 1) := by decide +kernel
theorem dX11_copy_0 : decode cX11_copy 0 = .ok (.iconst 0, 1) := by decide +kernel
theorem dX11_copy_1 : decode cX11_copy 1 = .ok (.istore_n 2, 1) := by decide +kernel
theorem dX11_copy_2 : decode cX11_copy 2 = .ok (.iload_n 2, 1) := by decide +kernel
theorem dX11_copy_3 : decode cX11_copy 3 = .ok (.sipush 553, 3) := by decide +kernel
theorem dX11_copy_6 : decode cX11_copy 6 = .ok (.if_icmp .ge 15, 3) := by decide +kernel
theorem dX11_copy_9 : decode cX11_copy 9 = .ok (.aload_n 1, 1) := by decide +kernel
theorem dX11_copy_10 : decode cX11_copy 10 = .ok (.iload_n 2, 1) := by decide +kernel
theorem dX11_copy_11 : decode cX11_copy 11 = .ok (.aload_n 0, 1) := by decide +kernel
theorem dX11_copy_12 : decode cX11_copy 12 = .ok (.iload_n 2, 1) := by decide +kernel
theorem dX11_copy_13 : decode cX11_copy 13 = .ok (.iaload, 1) := by decide +kernel
theorem dX11_copy_14 : decode cX11_copy 14 = .ok (.iastore, 1) := by decide +kernel
theorem dX11_copy_15 : decode cX11_copy 15 = .ok (.iinc 2 1, 3) := by decide +kernel
theorem dX11_copy_18 : decode cX11_copy 18 = .ok (.goto (-16), 3) := by decide +kernel
theorem dX11_copy_21 : decode cX11_copy 21 = .ok (.return_, 1) := by decide +kernel
theorem dX11_machine_0 : decode cX11_machine 0 = .ok (.aload_n 0, 1) := by decide +kernel
theorem dX11_machine_1 : decode cX11_machine 1 = .ok (.getfield 9, 3) := by decide +kernel
theorem dX11_machine_4 : decode cX11_machine 4 = .ok (.iconst 5, 1) := by decide +kernel
theorem dX11_machine_5 : decode cX11_machine 5 = .ok (.iconst 3, 1) := by decide +kernel
theorem dX11_machine_6 : decode cX11_machine 6 = .ok (.iload_n 1, 1) := by decide +kernel
theorem dX11_machine_7 : decode cX11_machine 7 = .ok (.imul, 1) := by decide +kernel
theorem dX11_machine_8 : decode cX11_machine 8 = .ok (.iadd, 1) := by decide +kernel
theorem dX11_machine_9 : decode cX11_machine 9 = .ok (.iload_n 2, 1) := by decide +kernel
theorem dX11_machine_10 : decode cX11_machine 10 = .ok (.iadd, 1) := by decide +kernel
theorem dX11_machine_11 : decode cX11_machine 11 = .ok (.iaload, 1) := by decide +kernel
theorem dX11_machine_12 : decode cX11_machine 12 = .ok (.ireturn, 1) := by decide +kernel
theorem dX11_machine__0 : decode cX11_machine_ 0 = .ok (.iload_n 1, 1) := by decide +kernel
theorem dX11_machine__1 : decode cX11_machine_ 1 = .ok (.iconst 0, 1) := by decide +kernel
theorem dX11_machine__2 : decode cX11_machine_ 2 = .ok (.iconst 5, 1) := by decide +kernel
theorem dX11_machine__3 : decode cX11_machine_ 3 = .ok (.invokestatic 83, 3) := by decide +kernel
theorem dX11_machine__6 : decode cX11_machine_ 6 = .ok (.ifCond .eq 23, 3) := by decide +kernel
theorem dX11_machine__9 : decode cX11_machine_ 9 = .ok (.iload_n 2, 1) := by decide +kernel
theorem dX11_machine__10 : decode cX11_machine_ 10 = .ok (.iconst 1, 1) := by decide +kernel
theorem dX11_machine__11 : decode cX11_machine_ 11 = .ok (.bipush 99, 2) := by decide +kernel
theorem dX11_machine__13 : decode cX11_machine_ 13 = .ok (.invokestatic 83, 3) := by decide +kernel
theorem dX11_machine__16 : decode cX11_machine_ 16 = .ok (.ifCond .eq 13, 3) := by decide +kernel
theorem dX11_machine__19 : decode cX11_machine_ 19 = .ok (.iload_n 3, 1) := by decide +kernel
theorem dX11_machine__20 : decode cX11_machine_ 20 = .ok (.iconst 1, 1) := by decide +kernel
theorem dX11_machine__21 : decode cX11_machine_ 21 = .ok (.bipush 9, 2) := by decide +kernel
theorem dX11_machine__23 : decode cX11_machine_ 23 = .ok (.invokestatic 83, 3) := by decide +kernel
theorem dX11_machine__26 : decode cX11_machine_ 26 = .ok (.ifCond .ne 10, 3) := by decide +kernel
theorem dX11_machine__29 : decode cX11_machine_ 29 = .ok (.aload_n 0, 1) := by decide +kernel
theorem dX11_machine__30 : decode cX11_machine_ 30 = .ok (.ldc 87, 2) := by decide +kernel
theorem dX11_machine__32 : decode cX11_machine_ 32 = .ok (.invokevirtual 88, 3) := by decide +kernel
theorem dX11_machine__35 : decode cX11_machine_ 35 = .ok (.ireturn, 1) := by decide +kernel
theorem dX11_machine__36 : decode cX11_machine_ 36 = .ok (.aload_n 0, 1) := by decide +kernel
theorem dX11_machine__37 : decode cX11_machine_ 37 = .ok (.getfield 9, 3) := by decide +kernel
theorem dX11_machine__40 : decode cX11_machine_ 40 = .ok (.iconst 0, 1) := by decide +kernel
theorem dX11_machine__41 : decode cX11_machine_ 41 = .ok (.iaload, 1) := by decide +kernel
theorem dX11_machine__42 : decode cX11_machine_ 42 = .ok (.bipush 12, 2) := by decide +kernel
theorem dX11_machine__44 : decode cX11_machine_ 44 = .ok (.if_icmp .ne 10, 3) := by decide +kernel
theorem dX11_machine__47 : decode cX11_machine_ 47 = .ok (.aload_n 0, 1) := by decide +kernel
theorem dX11_machine__48 : decode cX11_machine_ 48 = .ok (.ldc 92, 2) := by decide +kernel
theorem dX11_machine__50 : decode cX11_machine_ 50 = .ok (.invokevirtual 88, 3) := by decide +kernel
theorem dX11_machine__53 : decode cX11_machine_ 53 = .ok (.ireturn, 1) := by decide +kernel
theorem dX11_machine__54 : decode cX11_machine_ 54 = .ok (.aload_n 0, 1) := by decide +kernel
theorem dX11_machine__55 : decode cX11_machine_ 55 = .ok (.iload_n 1, 1) := by decide +kernel
theorem dX11_machine__56 : decode cX11_machine_ 56 = .ok (.iload_n 2, 1) := by decide +kernel
theorem dX11_machine__57 : decode cX11_machine_ 57 = .ok (.iload_n 3, 1) := by decide +kernel
theorem dX11_machine__58 : decode cX11_machine_ 58 = .ok (.invokevirtual 93, 3) := by decide +kernel
theorem dX11_machine__61 : decode cX11_machine_ 61 = .ok (.aload_n 0, 1) := by decide +kernel
theorem dX11_machine__62 : decode cX11_machine_ 62 = .ok (.getfield 9, 3) := by decide +kernel
theorem dX11_machine__65 : decode cX11_machine_ 65 = .ok (.iconst 0, 1) := by decide +kernel
theorem dX11_machine__66 : decode cX11_machine_ 66 = .ok (.iaload, 1) := by decide +kernel
theorem dX11_machine__67 : decode cX11_machine_ 67 = .ok (.iconst 1, 1) := by decide +kernel
theorem dX11_machine__68 : decode cX11_machine_ 68 = .ok (.isub, 1) := by decide +kernel
theorem dX11_machine__69 : decode cX11_machine_ 69 = .ok (.ireturn, 1) := by decide +kernel
theorem dX11_makes_0 : decode cX11_makes 0 = .ok (.iconst 5, 1) := by decide +kernel
theorem dX11_makes_1 : decode cX11_makes 1 = .ok (.iconst 3, 1) := by decide +kernel
theorem dX11_makes_2 : decode cX11_makes 2 = .ok (.aload_n 0, 1) := by decide +kernel
theorem dX11_makes_3 : decode cX11_makes 3 = .ok (.getfield 9, 3) := by decide +kernel
theorem dX11_makes_6 : decode cX11_makes 6 = .ok (.iconst 0, 1) := by decide +kernel
theorem dX11_makes_7 : decode cX11_makes 7 = .ok (.iaload, 1) := by decide +kernel
theorem dX11_makes_8 : decode cX11_makes 8 = .ok (.imul, 1) := by decide +kernel
theorem dX11_makes_9 : decode cX11_makes 9 = .ok (.iadd, 1) := by decide +kernel
theorem dX11_makes_10 : decode cX11_makes 10 = .ok (.istore 4, 2) := by decide +kernel
theorem dX11_makes_12 : decode cX11_makes 12 = .ok (.aload_n 0, 1) := by decide +kernel
theorem dX11_makes_13 : decode cX11_makes 13 = .ok (.getfield 9, 3) := by decide +kernel
theorem dX11_makes_16 : decode cX11_makes 16 = .ok (.iload 4, 2) := by decide +kernel
theorem dX11_makes_18 : decode cX11_makes 18 = .ok (.iconst 0, 1) := by decide +kernel
theorem dX11_makes_19 : decode cX11_makes 19 = .ok (.iadd, 1) := by decide +kernel
theorem dX11_makes_20 : decode cX11_makes 20 = .ok (.iload_n 1, 1) := by decide +kernel
theorem dX11_makes_21 : decode cX11_makes 21 = .ok (.iastore, 1) := by decide +kernel
theorem dX11_makes_22 : decode cX11_makes 22 = .ok (.aload_n 0, 1) := by decide +kernel
theorem dX11_makes_23 : decode cX11_makes 23 = .ok (.getfield 9, 3) := by decide +kernel
theorem dX11_makes_26 : decode cX11_makes 26 = .ok (.iload 4, 2) := by decide +kernel
theorem dX11_makes_28 : decode cX11_makes 28 = .ok (.iconst 1, 1) := by decide +kernel
theorem dX11_makes_29 : decode cX11_makes 29 = .ok (.iadd, 1) := by decide +kernel
theorem dX11_makes_30 : decode cX11_makes 30 = .ok (.iload_n 2, 1) := by decide +kernel
theorem dX11_makes_31 : decode cX11_makes 31 = .ok (.iastore, 1) := by decide +kernel
theorem dX11_makes_32 : decode cX11_makes 32 = .ok (.aload_n 0, 1) := by decide +kernel
theorem dX11_makes_33 : decode cX11_makes 33 = .ok (.getfield 9, 3) := by decide +kernel
theorem dX11_makes_36 : decode cX11_makes 36 = .ok (.iload 4, 2) := by decide +kernel
theorem dX11_makes_38 : decode cX11_makes 38 = .ok (.iconst 2, 1) := by decide +kernel
theorem dX11_makes_39 : decode cX11_makes 39 = .ok (.iadd, 1) := by decide +kernel
theorem dX11_makes_40 : decode cX11_makes 40 = .ok (.iload_n 3, 1) := by decide +kernel
theorem dX11_makes_41 : decode cX11_makes 41 = .ok (.iastore, 1) := by decide +kernel
theorem dX11_makes_42 : decode cX11_makes 42 = .ok (.aload_n 0, 1) := by decide +kernel
theorem dX11_makes_43 : decode cX11_makes 43 = .ok (.getfield 9, 3) := by decide +kernel
theorem dX11_makes_46 : decode cX11_makes 46 = .ok (.iconst 0, 1) := by decide +kernel
theorem dX11_makes_47 : decode cX11_makes 47 = .ok (.dup2, 1) := by decide +kernel
theorem dX11_makes_48 : decode cX11_makes 48 = .ok (.iaload, 1) := by decide +kernel
theorem dX11_makes_49 : decode cX11_makes 49 = .ok (.iconst 1, 1) := by decide +kernel
theorem dX11_makes_50 : decode cX11_makes 50 = .ok (.iadd, 1) := by decide +kernel
theorem dX11_makes_51 : decode cX11_makes 51 = .ok (.iastore, 1) := by decide +kernel
theorem dX11_makes_52 : decode cX11_makes 52 = .ok (.return_, 1) := by decide +kernel
theorem dX11_tieOf_0 : decode cX11_tieOf 0 = .ok (.aload_n 0, 1) := by decide +kernel
theorem dX11_tieOf_1 : decode cX11_tieOf 1 = .ok (.getfield 9, 3) := by decide +kernel
theorem dX11_tieOf_4 : decode cX11_tieOf 4 = .ok (.bipush 41, 2) := by decide +kernel
theorem dX11_tieOf_6 : decode cX11_tieOf 6 = .ok (.bipush 12, 2) := by decide +kernel
theorem dX11_tieOf_8 : decode cX11_tieOf 8 = .ok (.iload_n 1, 1) := by decide +kernel
theorem dX11_tieOf_9 : decode cX11_tieOf 9 = .ok (.imul, 1) := by decide +kernel
theorem dX11_tieOf_10 : decode cX11_tieOf 10 = .ok (.iadd, 1) := by decide +kernel
theorem dX11_tieOf_11 : decode cX11_tieOf 11 = .ok (.iload_n 2, 1) := by decide +kernel
theorem dX11_tieOf_12 : decode cX11_tieOf 12 = .ok (.iadd, 1) := by decide +kernel
theorem dX11_tieOf_13 : decode cX11_tieOf 13 = .ok (.iaload, 1) := by decide +kernel
theorem dX11_tieOf_14 : decode cX11_tieOf 14 = .ok (.ireturn, 1) := by decide +kernel
theorem dX11_saying_0 : decode cX11_saying 0 = .ok (.aload_n 0, 1) := by decide +kernel
theorem dX11_saying_1 : decode cX11_saying 1 = .ok (.getfield 9, 3) := by decide +kernel
theorem dX11_saying_4 : decode cX11_saying 4 = .ok (.sipush 185, 3) := by decide +kernel
theorem dX11_saying_7 : decode cX11_saying 7 = .ok (.iconst 4, 1) := by decide +kernel
theorem dX11_saying_8 : decode cX11_saying 8 = .ok (.iload_n 1, 1) := by decide +kernel
theorem dX11_saying_9 : decode cX11_saying 9 = .ok (.imul, 1) := by decide +kernel
theorem dX11_saying_10 : decode cX11_saying 10 = .ok (.iadd, 1) := by decide +kernel
theorem dX11_saying_11 : decode cX11_saying 11 = .ok (.iload_n 2, 1) := by decide +kernel
theorem dX11_saying_12 : decode cX11_saying 12 = .ok (.iadd, 1) := by decide +kernel
theorem dX11_saying_13 : decode cX11_saying 13 = .ok (.iaload, 1) := by decide +kernel
theorem dX11_saying_14 : decode cX11_saying 14 = .ok (.ireturn, 1) := by decide +kernel
theorem dX11_counts_0 : decode cX11_counts 0 = .ok (.aload_n 0, 1) := by decide +kernel
theorem dX11_counts_1 : decode cX11_counts 1 = .ok (.iload_n 1, 1) := by decide +kernel
theorem dX11_counts_2 : decode cX11_counts 2 = .ok (.iconst 3, 1) := by decide +kernel
theorem dX11_counts_3 : decode cX11_counts 3 = .ok (.invokevirtual 97, 3) := by decide +kernel
theorem dX11_counts_6 : decode cX11_counts 6 = .ok (.iconst 1, 1) := by decide +kernel
theorem dX11_counts_7 : decode cX11_counts 7 = .ok (.if_icmp .ne 7, 3) := by decide +kernel
theorem dX11_counts_10 : decode cX11_counts 10 = .ok (.iconst 1, 1) := by decide +kernel
theorem dX11_counts_11 : decode cX11_counts 11 = .ok (.goto 4, 3) := by decide +kernel
theorem dX11_counts_14 : decode cX11_counts 14 = .ok (.iconst 0, 1) := by decide +kernel
theorem dX11_counts_15 : decode cX11_counts 15 = .ok (.ireturn, 1) := by decide +kernel
theorem dX11_machineIs_0 : decode cX11_machineIs 0 = .ok (.aload_n 0, 1) := by decide +kernel
theorem dX11_machineIs_1 : decode cX11_machineIs 1 = .ok (.iload_n 1, 1) := by decide +kernel
theorem dX11_machineIs_2 : decode cX11_machineIs 2 = .ok (.iconst 0, 1) := by decide +kernel
theorem dX11_machineIs_3 : decode cX11_machineIs 3 = .ok (.invokevirtual 101, 3) := by decide +kernel
theorem dX11_machineIs_6 : decode cX11_machineIs 6 = .ok (.ifCond .eq 12, 3) := by decide +kernel
theorem dX11_machineIs_9 : decode cX11_machineIs 9 = .ok (.iload_n 2, 1) := by decide +kernel
theorem dX11_machineIs_10 : decode cX11_machineIs 10 = .ok (.iconst 0, 1) := by decide +kernel
theorem dX11_machineIs_11 : decode cX11_machineIs 11 = .ok (.iconst 5, 1) := by decide +kernel
theorem dX11_machineIs_12 : decode cX11_machineIs 12 = .ok (.invokestatic 83, 3) := by decide +kernel
theorem dX11_machineIs_15 : decode cX11_machineIs 15 = .ok (.ifCond .ne 10, 3) := by decide +kernel
theorem dX11_machineIs_18 : decode cX11_machineIs 18 = .ok (.aload_n 0, 1) := by decide +kernel
theorem dX11_machineIs_19 : decode cX11_machineIs 19 = .ok (.ldc 87, 2) := by decide +kernel
theorem dX11_machineIs_21 : decode cX11_machineIs 21 = .ok (.invokevirtual 88, 3) := by decide +kernel
theorem dX11_machineIs_24 : decode cX11_machineIs 24 = .ok (.ireturn, 1) := by decide +kernel
theorem dX11_machineIs_25 : decode cX11_machineIs 25 = .ok (.iload_n 2, 1) := by decide +kernel
theorem dX11_machineIs_26 : decode cX11_machineIs 26 = .ok (.iconst 3, 1) := by decide +kernel
theorem dX11_machineIs_27 : decode cX11_machineIs 27 = .ok (.if_icmp .ge 10, 3) := by decide +kernel
theorem dX11_machineIs_30 : decode cX11_machineIs 30 = .ok (.aload_n 0, 1) := by decide +kernel
theorem dX11_machineIs_31 : decode cX11_machineIs 31 = .ok (.iload_n 1, 1) := by decide +kernel
theorem dX11_machineIs_32 : decode cX11_machineIs 32 = .ok (.iload_n 2, 1) := by decide +kernel
theorem dX11_machineIs_33 : decode cX11_machineIs 33 = .ok (.invokevirtual 105, 3) := by decide +kernel
theorem dX11_machineIs_36 : decode cX11_machineIs 36 = .ok (.ireturn, 1) := by decide +kernel
theorem dX11_machineIs_37 : decode cX11_machineIs 37 = .ok (.iconst 0, 1) := by decide +kernel
theorem dX11_machineIs_38 : decode cX11_machineIs 38 = .ok (.istore_n 3, 1) := by decide +kernel
theorem dX11_machineIs_39 : decode cX11_machineIs 39 = .ok (.iconst 0, 1) := by decide +kernel
theorem dX11_machineIs_40 : decode cX11_machineIs 40 = .ok (.istore 4, 2) := by decide +kernel
theorem dX11_machineIs_42 : decode cX11_machineIs 42 = .ok (.iload 4, 2) := by decide +kernel
theorem dX11_machineIs_44 : decode cX11_machineIs 44 = .ok (.aload_n 0, 1) := by decide +kernel
theorem dX11_machineIs_45 : decode cX11_machineIs 45 = .ok (.getfield 9, 3) := by decide +kernel
theorem dX11_machineIs_48 : decode cX11_machineIs 48 = .ok (.iconst 0, 1) := by decide +kernel
theorem dX11_machineIs_49 : decode cX11_machineIs 49 = .ok (.iaload, 1) := by decide +kernel
theorem dX11_machineIs_50 : decode cX11_machineIs 50 = .ok (.if_icmp .ge 35, 3) := by decide +kernel
theorem dX11_machineIs_53 : decode cX11_machineIs 53 = .ok (.iload_n 2, 1) := by decide +kernel
theorem dX11_machineIs_54 : decode cX11_machineIs 54 = .ok (.iconst 3, 1) := by decide +kernel
theorem dX11_machineIs_55 : decode cX11_machineIs 55 = .ok (.if_icmp .ne 30, 3) := by decide +kernel
theorem dX11_machineIs_58 : decode cX11_machineIs 58 = .ok (.iload_n 3, 1) := by decide +kernel
theorem dX11_machineIs_59 : decode cX11_machineIs 59 = .ok (.aload_n 0, 1) := by decide +kernel
theorem dX11_machineIs_60 : decode cX11_machineIs 60 = .ok (.iload_n 1, 1) := by decide +kernel
theorem dX11_machineIs_61 : decode cX11_machineIs 61 = .ok (.iload 4, 2) := by decide +kernel
theorem dX11_machineIs_63 : decode cX11_machineIs 63 = .ok (.invokevirtual 108, 3) := by decide +kernel
theorem dX11_machineIs_66 : decode cX11_machineIs 66 = .ok (.ifCond .le 10, 3) := by decide +kernel
theorem dX11_machineIs_69 : decode cX11_machineIs 69 = .ok (.iconst 1, 1) := by decide +kernel
theorem dX11_machineIs_70 : decode cX11_machineIs 70 = .ok (.iload 4, 2) := by decide +kernel
theorem dX11_machineIs_72 : decode cX11_machineIs 72 = .ok (.ishl, 1) := by decide +kernel
theorem dX11_machineIs_73 : decode cX11_machineIs 73 = .ok (.goto 4, 3) := by decide +kernel
theorem dX11_machineIs_76 : decode cX11_machineIs 76 = .ok (.iconst 0, 1) := by decide +kernel
theorem dX11_machineIs_77 : decode cX11_machineIs 77 = .ok (.ior, 1) := by decide +kernel
theorem dX11_machineIs_78 : decode cX11_machineIs 78 = .ok (.istore_n 3, 1) := by decide +kernel
theorem dX11_machineIs_79 : decode cX11_machineIs 79 = .ok (.iinc 4 1, 3) := by decide +kernel
theorem dX11_machineIs_82 : decode cX11_machineIs 82 = .ok (.goto (-40), 3) := by decide +kernel
theorem dX11_machineIs_85 : decode cX11_machineIs 85 = .ok (.iconst 0, 1) := by decide +kernel
theorem dX11_machineIs_86 : decode cX11_machineIs 86 = .ok (.istore 4, 2) := by decide +kernel
theorem dX11_machineIs_88 : decode cX11_machineIs 88 = .ok (.iload 4, 2) := by decide +kernel
theorem dX11_machineIs_90 : decode cX11_machineIs 90 = .ok (.aload_n 0, 1) := by decide +kernel
theorem dX11_machineIs_91 : decode cX11_machineIs 91 = .ok (.getfield 9, 3) := by decide +kernel
theorem dX11_machineIs_94 : decode cX11_machineIs 94 = .ok (.iconst 1, 1) := by decide +kernel
theorem dX11_machineIs_95 : decode cX11_machineIs 95 = .ok (.iaload, 1) := by decide +kernel
theorem dX11_machineIs_96 : decode cX11_machineIs 96 = .ok (.if_icmp .ge 51, 3) := by decide +kernel
theorem dX11_machineIs_99 : decode cX11_machineIs 99 = .ok (.iload_n 2, 1) := by decide +kernel
theorem dX11_machineIs_100 : decode cX11_machineIs 100 = .ok (.iconst 3, 1) := by decide +kernel
theorem dX11_machineIs_101 : decode cX11_machineIs 101 = .ok (.if_icmp .le 46, 3) := by decide +kernel
theorem dX11_machineIs_104 : decode cX11_machineIs 104 = .ok (.iload_n 3, 1) := by decide +kernel
theorem dX11_machineIs_105 : decode cX11_machineIs 105 = .ok (.aload_n 0, 1) := by decide +kernel
theorem dX11_machineIs_106 : decode cX11_machineIs 106 = .ok (.iload 4, 2) := by decide +kernel
theorem dX11_machineIs_108 : decode cX11_machineIs 108 = .ok (.invokevirtual 111, 3) := by decide +kernel
theorem dX11_machineIs_111 : decode cX11_machineIs 111 = .ok (.ifCond .eq 27, 3) := by decide +kernel
theorem dX11_machineIs_114 : decode cX11_machineIs 114 = .ok (.aload_n 0, 1) := by decide +kernel
theorem dX11_machineIs_115 : decode cX11_machineIs 115 = .ok (.iload 4, 2) := by decide +kernel
theorem dX11_machineIs_117 : decode cX11_machineIs 117 = .ok (.iload_n 2, 1) := by decide +kernel
theorem dX11_machineIs_118 : decode cX11_machineIs 118 = .ok (.iconst 4, 1) := by decide +kernel
theorem dX11_machineIs_119 : decode cX11_machineIs 119 = .ok (.if_icmp .ne 7, 3) := by decide +kernel
theorem dX11_machineIs_122 : decode cX11_machineIs 122 = .ok (.iconst 0, 1) := by decide +kernel
theorem dX11_machineIs_123 : decode cX11_machineIs 123 = .ok (.goto 4, 3) := by decide +kernel
theorem dX11_machineIs_126 : decode cX11_machineIs 126 = .ok (.iconst 1, 1) := by decide +kernel
theorem dX11_machineIs_127 : decode cX11_machineIs 127 = .ok (.invokevirtual 97, 3) := by decide +kernel
theorem dX11_machineIs_130 : decode cX11_machineIs 130 = .ok (.iload_n 1, 1) := by decide +kernel
theorem dX11_machineIs_131 : decode cX11_machineIs 131 = .ok (.if_icmp .ne 7, 3) := by decide +kernel
theorem dX11_machineIs_134 : decode cX11_machineIs 134 = .ok (.iconst 1, 1) := by decide +kernel
theorem dX11_machineIs_135 : decode cX11_machineIs 135 = .ok (.goto 4, 3) := by decide +kernel
theorem dX11_machineIs_138 : decode cX11_machineIs 138 = .ok (.iconst 0, 1) := by decide +kernel
theorem dX11_machineIs_139 : decode cX11_machineIs 139 = .ok (.iadd, 1) := by decide +kernel
theorem dX11_machineIs_140 : decode cX11_machineIs 140 = .ok (.istore_n 3, 1) := by decide +kernel
theorem dX11_machineIs_141 : decode cX11_machineIs 141 = .ok (.iinc 4 1, 3) := by decide +kernel
theorem dX11_machineIs_144 : decode cX11_machineIs 144 = .ok (.goto (-56), 3) := by decide +kernel
theorem dX11_machineIs_147 : decode cX11_machineIs 147 = .ok (.iload_n 3, 1) := by decide +kernel
theorem dX11_machineIs_148 : decode cX11_machineIs 148 = .ok (.ireturn, 1) := by decide +kernel
theorem dX11_above_0 : decode cX11_above 0 = .ok (.iload_n 0, 1) := by decide +kernel
theorem dX11_above_1 : decode cX11_above 1 = .ok (.ifCond .ne 7, 3) := by decide +kernel
theorem dX11_above_4 : decode cX11_above 4 = .ok (.iconst (-1), 1) := by decide +kernel
theorem dX11_above_5 : decode cX11_above 5 = .ok (.goto 22, 3) := by decide +kernel
theorem dX11_above_8 : decode cX11_above 8 = .ok (.iload_n 0, 1) := by decide +kernel
theorem dX11_above_9 : decode cX11_above 9 = .ok (.iconst 4, 1) := by decide +kernel
theorem dX11_above_10 : decode cX11_above 10 = .ok (.if_icmp .ne 7, 3) := by decide +kernel
theorem dX11_above_13 : decode cX11_above 13 = .ok (.iconst 2, 1) := by decide +kernel
theorem dX11_above_14 : decode cX11_above 14 = .ok (.goto 13, 3) := by decide +kernel
theorem dX11_above_17 : decode cX11_above 17 = .ok (.iload_n 0, 1) := by decide +kernel
theorem dX11_above_18 : decode cX11_above 18 = .ok (.iconst 5, 1) := by decide +kernel
theorem dX11_above_19 : decode cX11_above 19 = .ok (.if_icmp .ne 7, 3) := by decide +kernel
theorem dX11_above_22 : decode cX11_above 22 = .ok (.iconst 3, 1) := by decide +kernel
theorem dX11_above_23 : decode cX11_above 23 = .ok (.goto 4, 3) := by decide +kernel
theorem dX11_above_26 : decode cX11_above 26 = .ok (.iconst 0, 1) := by decide +kernel
theorem dX11_above_27 : decode cX11_above 27 = .ok (.ireturn, 1) := by decide +kernel
theorem dX11_as_0 : decode cX11_as 0 = .ok (.aload_n 0, 1) := by decide +kernel
theorem dX11_as_1 : decode cX11_as 1 = .ok (.iload_n 1, 1) := by decide +kernel
theorem dX11_as_2 : decode cX11_as 2 = .ok (.iconst 0, 1) := by decide +kernel
theorem dX11_as_3 : decode cX11_as 3 = .ok (.invokevirtual 101, 3) := by decide +kernel
theorem dX11_as_6 : decode cX11_as 6 = .ok (.ifCond .eq 12, 3) := by decide +kernel
theorem dX11_as_9 : decode cX11_as 9 = .ok (.iload_n 2, 1) := by decide +kernel
theorem dX11_as_10 : decode cX11_as 10 = .ok (.iconst 0, 1) := by decide +kernel
theorem dX11_as_11 : decode cX11_as 11 = .ok (.iconst 5, 1) := by decide +kernel
theorem dX11_as_12 : decode cX11_as 12 = .ok (.invokestatic 83, 3) := by decide +kernel
theorem dX11_as_15 : decode cX11_as 15 = .ok (.ifCond .ne 10, 3) := by decide +kernel
theorem dX11_as_18 : decode cX11_as 18 = .ok (.aload_n 0, 1) := by decide +kernel
theorem dX11_as_19 : decode cX11_as 19 = .ok (.ldc 87, 2) := by decide +kernel
theorem dX11_as_21 : decode cX11_as 21 = .ok (.invokevirtual 88, 3) := by decide +kernel
theorem dX11_as_24 : decode cX11_as 24 = .ok (.ireturn, 1) := by decide +kernel
theorem dX11_as_25 : decode cX11_as 25 = .ok (.aload_n 0, 1) := by decide +kernel
theorem dX11_as_26 : decode cX11_as 26 = .ok (.iload_n 1, 1) := by decide +kernel
theorem dX11_as_27 : decode cX11_as 27 = .ok (.iconst 0, 1) := by decide +kernel
theorem dX11_as_28 : decode cX11_as 28 = .ok (.invokevirtual 105, 3) := by decide +kernel
theorem dX11_as_31 : decode cX11_as 31 = .ok (.istore_n 3, 1) := by decide +kernel
theorem dX11_as_32 : decode cX11_as 32 = .ok (.iload_n 3, 1) := by decide +kernel
theorem dX11_as_33 : decode cX11_as 33 = .ok (.ifCond .lt 16, 3) := by decide +kernel
theorem dX11_as_36 : decode cX11_as 36 = .ok (.iload_n 3, 1) := by decide +kernel
theorem dX11_as_37 : decode cX11_as 37 = .ok (.iload_n 2, 1) := by decide +kernel
theorem dX11_as_38 : decode cX11_as 38 = .ok (.if_icmp .eq 11, 3) := by decide +kernel
theorem dX11_as_41 : decode cX11_as 41 = .ok (.iload_n 3, 1) := by decide +kernel
theorem dX11_as_42 : decode cX11_as 42 = .ok (.invokestatic 115, 3) := by decide +kernel
theorem dX11_as_45 : decode cX11_as 45 = .ok (.istore_n 3, 1) := by decide +kernel
theorem dX11_as_46 : decode cX11_as 46 = .ok (.goto (-14), 3) := by decide +kernel
theorem dX11_as_49 : decode cX11_as 49 = .ok (.iload_n 3, 1) := by decide +kernel
theorem dX11_as_50 : decode cX11_as 50 = .ok (.ifCond .ge 12, 3) := by decide +kernel
theorem dX11_as_53 : decode cX11_as 53 = .ok (.aload_n 0, 1) := by decide +kernel
theorem dX11_as_54 : decode cX11_as 54 = .ok (.ldc 118, 2) := by decide +kernel
theorem dX11_as_56 : decode cX11_as 56 = .ok (.invokevirtual 88, 3) := by decide +kernel
theorem dX11_as_59 : decode cX11_as 59 = .ok (.goto 9, 3) := by decide +kernel
theorem dX11_as_62 : decode cX11_as 62 = .ok (.aload_n 0, 1) := by decide +kernel
theorem dX11_as_63 : decode cX11_as 63 = .ok (.iload_n 1, 1) := by decide +kernel
theorem dX11_as_64 : decode cX11_as 64 = .ok (.iconst 1, 1) := by decide +kernel
theorem dX11_as_65 : decode cX11_as 65 = .ok (.invokevirtual 105, 3) := by decide +kernel
theorem dX11_as_68 : decode cX11_as 68 = .ok (.ireturn, 1) := by decide +kernel
theorem dX11_areMachines_0 : decode cX11_areMachines 0 = .ok (.aload_n 0, 1) := by decide +kernel
theorem dX11_areMachines_1 : decode cX11_areMachines 1 = .ok (.iload_n 1, 1) := by decide +kernel
theorem dX11_areMachines_2 : decode cX11_areMachines 2 = .ok (.iconst 0, 1) := by decide +kernel
theorem dX11_areMachines_3 : decode cX11_areMachines 3 = .ok (.invokevirtual 101, 3) := by decide +kernel
theorem dX11_areMachines_6 : decode cX11_areMachines 6 = .ok (.ifCond .eq 16, 3) := by decide +kernel
theorem dX11_areMachines_9 : decode cX11_areMachines 9 = .ok (.aload_n 0, 1) := by decide +kernel
theorem dX11_areMachines_10 : decode cX11_areMachines 10 = .ok (.iload_n 2, 1) := by decide +kernel
theorem dX11_areMachines_11 : decode cX11_areMachines 11 = .ok (.iconst 0, 1) := by decide +kernel
theorem dX11_areMachines_12 : decode cX11_areMachines 12 = .ok (.invokevirtual 101, 3) := by decide +kernel
theorem dX11_areMachines_15 : decode cX11_areMachines 15 = .ok (.ifCond .eq 7, 3) := by decide +kernel
theorem dX11_areMachines_18 : decode cX11_areMachines 18 = .ok (.iconst 1, 1) := by decide +kernel
theorem dX11_areMachines_19 : decode cX11_areMachines 19 = .ok (.goto 4, 3) := by decide +kernel
theorem dX11_areMachines_22 : decode cX11_areMachines 22 = .ok (.iconst 0, 1) := by decide +kernel
theorem dX11_areMachines_23 : decode cX11_areMachines 23 = .ok (.ireturn, 1) := by decide +kernel
theorem dX11_tie_0 : decode cX11_tie 0 = .ok (.aload_n 0, 1) := by decide +kernel
theorem dX11_tie_1 : decode cX11_tie 1 = .ok (.iload_n 1, 1) := by decide +kernel
theorem dX11_tie_2 : decode cX11_tie 2 = .ok (.iload_n 2, 1) := by decide +kernel
theorem dX11_tie_3 : decode cX11_tie 3 = .ok (.invokevirtual 119, 3) := by decide +kernel
theorem dX11_tie_6 : decode cX11_tie 6 = .ok (.ifCond .eq 13, 3) := by decide +kernel
theorem dX11_tie_9 : decode cX11_tie 9 = .ok (.iload_n 3, 1) := by decide +kernel
theorem dX11_tie_10 : decode cX11_tie 10 = .ok (.iconst 0, 1) := by decide +kernel
theorem dX11_tie_11 : decode cX11_tie 11 = .ok (.bipush 99, 2) := by decide +kernel
theorem dX11_tie_13 : decode cX11_tie 13 = .ok (.invokestatic 83, 3) := by decide +kernel
theorem dX11_tie_16 : decode cX11_tie 16 = .ok (.ifCond .ne 10, 3) := by decide +kernel
theorem dX11_tie_19 : decode cX11_tie 19 = .ok (.aload_n 0, 1) := by decide +kernel
theorem dX11_tie_20 : decode cX11_tie 20 = .ok (.ldc 87, 2) := by decide +kernel
theorem dX11_tie_22 : decode cX11_tie 22 = .ok (.invokevirtual 88, 3) := by decide +kernel
theorem dX11_tie_25 : decode cX11_tie 25 = .ok (.ireturn, 1) := by decide +kernel
theorem dX11_tie_26 : decode cX11_tie 26 = .ok (.iload_n 1, 1) := by decide +kernel
theorem dX11_tie_27 : decode cX11_tie 27 = .ok (.iload_n 2, 1) := by decide +kernel
theorem dX11_tie_28 : decode cX11_tie 28 = .ok (.if_icmp .ne 10, 3) := by decide +kernel
theorem dX11_tie_31 : decode cX11_tie 31 = .ok (.aload_n 0, 1) := by decide +kernel
theorem dX11_tie_32 : decode cX11_tie 32 = .ok (.ldc 122, 2) := by decide +kernel
theorem dX11_tie_34 : decode cX11_tie 34 = .ok (.invokevirtual 88, 3) := by decide +kernel
theorem dX11_tie_37 : decode cX11_tie 37 = .ok (.ireturn, 1) := by decide +kernel
theorem dX11_tie_38 : decode cX11_tie 38 = .ok (.aload_n 0, 1) := by decide +kernel
theorem dX11_tie_39 : decode cX11_tie 39 = .ok (.iload_n 1, 1) := by decide +kernel
theorem dX11_tie_40 : decode cX11_tie 40 = .ok (.iload_n 2, 1) := by decide +kernel
theorem dX11_tie_41 : decode cX11_tie 41 = .ok (.invokevirtual 108, 3) := by decide +kernel
theorem dX11_tie_44 : decode cX11_tie 44 = .ok (.istore 4, 2) := by decide +kernel
theorem dX11_tie_46 : decode cX11_tie 46 = .ok (.aload_n 0, 1) := by decide +kernel
theorem dX11_tie_47 : decode cX11_tie 47 = .ok (.getfield 9, 3) := by decide +kernel
theorem dX11_tie_50 : decode cX11_tie 50 = .ok (.bipush 41, 2) := by decide +kernel
theorem dX11_tie_52 : decode cX11_tie 52 = .ok (.bipush 12, 2) := by decide +kernel
theorem dX11_tie_54 : decode cX11_tie 54 = .ok (.iload_n 1, 1) := by decide +kernel
theorem dX11_tie_55 : decode cX11_tie 55 = .ok (.imul, 1) := by decide +kernel
theorem dX11_tie_56 : decode cX11_tie 56 = .ok (.iadd, 1) := by decide +kernel
theorem dX11_tie_57 : decode cX11_tie 57 = .ok (.iload_n 2, 1) := by decide +kernel
theorem dX11_tie_58 : decode cX11_tie 58 = .ok (.iadd, 1) := by decide +kernel
theorem dX11_tie_59 : decode cX11_tie 59 = .ok (.iload_n 3, 1) := by decide +kernel
theorem dX11_tie_60 : decode cX11_tie 60 = .ok (.iastore, 1) := by decide +kernel
theorem dX11_tie_61 : decode cX11_tie 61 = .ok (.iload 4, 2) := by decide +kernel
theorem dX11_tie_63 : decode cX11_tie 63 = .ok (.ireturn, 1) := by decide +kernel
theorem dX11_whyNot_0 : decode cX11_whyNot 0 = .ok (.aload_n 0, 1) := by decide +kernel
theorem dX11_whyNot_1 : decode cX11_whyNot 1 = .ok (.iload_n 1, 1) := by decide +kernel
theorem dX11_whyNot_2 : decode cX11_whyNot 2 = .ok (.iload_n 2, 1) := by decide +kernel
theorem dX11_whyNot_3 : decode cX11_whyNot 3 = .ok (.invokevirtual 119, 3) := by decide +kernel
theorem dX11_whyNot_6 : decode cX11_whyNot 6 = .ok (.ifCond .ne 8, 3) := by decide +kernel
theorem dX11_whyNot_9 : decode cX11_whyNot 9 = .ok (.ldc 87, 2) := by decide +kernel
theorem dX11_whyNot_11 : decode cX11_whyNot 11 = .ok (.goto 39, 3) := by decide +kernel
theorem dX11_whyNot_14 : decode cX11_whyNot 14 = .ok (.iload_n 1, 1) := by decide +kernel
theorem dX11_whyNot_15 : decode cX11_whyNot 15 = .ok (.iload_n 2, 1) := by decide +kernel
theorem dX11_whyNot_16 : decode cX11_whyNot 16 = .ok (.if_icmp .eq 12, 3) := by decide +kernel
theorem dX11_whyNot_19 : decode cX11_whyNot 19 = .ok (.aload_n 0, 1) := by decide +kernel
theorem dX11_whyNot_20 : decode cX11_whyNot 20 = .ok (.iload_n 1, 1) := by decide +kernel
theorem dX11_whyNot_21 : decode cX11_whyNot 21 = .ok (.iload_n 2, 1) := by decide +kernel
theorem dX11_whyNot_22 : decode cX11_whyNot 22 = .ok (.invokevirtual 108, 3) := by decide +kernel
theorem dX11_whyNot_25 : decode cX11_whyNot 25 = .ok (.ifCond .ne 8, 3) := by decide +kernel
theorem dX11_whyNot_28 : decode cX11_whyNot 28 = .ok (.ldc 122, 2) := by decide +kernel
theorem dX11_whyNot_30 : decode cX11_whyNot 30 = .ok (.goto 20, 3) := by decide +kernel
theorem dX11_whyNot_33 : decode cX11_whyNot 33 = .ok (.aload_n 0, 1) := by decide +kernel
theorem dX11_whyNot_34 : decode cX11_whyNot 34 = .ok (.getfield 9, 3) := by decide +kernel
theorem dX11_whyNot_37 : decode cX11_whyNot 37 = .ok (.iconst 1, 1) := by decide +kernel
theorem dX11_whyNot_38 : decode cX11_whyNot 38 = .ok (.iaload, 1) := by decide +kernel
theorem dX11_whyNot_39 : decode cX11_whyNot 39 = .ok (.bipush 60, 2) := by decide +kernel
theorem dX11_whyNot_41 : decode cX11_whyNot 41 = .ok (.if_icmp .ne 8, 3) := by decide +kernel
theorem dX11_whyNot_44 : decode cX11_whyNot 44 = .ok (.ldc 92, 2) := by decide +kernel
theorem dX11_whyNot_46 : decode cX11_whyNot 46 = .ok (.goto 4, 3) := by decide +kernel
theorem dX11_whyNot_49 : decode cX11_whyNot 49 = .ok (.iconst 0, 1) := by decide +kernel
theorem dX11_whyNot_50 : decode cX11_whyNot 50 = .ok (.ireturn, 1) := by decide +kernel
theorem dX11_saysSo_0 : decode cX11_saysSo 0 = .ok (.sipush 185, 3) := by decide +kernel
theorem dX11_saysSo_3 : decode cX11_saysSo 3 = .ok (.iconst 4, 1) := by decide +kernel
theorem dX11_saysSo_4 : decode cX11_saysSo 4 = .ok (.aload_n 0, 1) := by decide +kernel
theorem dX11_saysSo_5 : decode cX11_saysSo 5 = .ok (.getfield 9, 3) := by decide +kernel
theorem dX11_saysSo_8 : decode cX11_saysSo 8 = .ok (.iconst 1, 1) := by decide +kernel
theorem dX11_saysSo_9 : decode cX11_saysSo 9 = .ok (.iaload, 1) := by decide +kernel
theorem dX11_saysSo_10 : decode cX11_saysSo 10 = .ok (.imul, 1) := by decide +kernel
theorem dX11_saysSo_11 : decode cX11_saysSo 11 = .ok (.iadd, 1) := by decide +kernel
theorem dX11_saysSo_12 : decode cX11_saysSo 12 = .ok (.istore 4, 2) := by decide +kernel
theorem dX11_saysSo_14 : decode cX11_saysSo 14 = .ok (.aload_n 0, 1) := by decide +kernel
theorem dX11_saysSo_15 : decode cX11_saysSo 15 = .ok (.getfield 9, 3) := by decide +kernel
theorem dX11_saysSo_18 : decode cX11_saysSo 18 = .ok (.iload 4, 2) := by decide +kernel
theorem dX11_saysSo_20 : decode cX11_saysSo 20 = .ok (.iconst 0, 1) := by decide +kernel
theorem dX11_saysSo_21 : decode cX11_saysSo 21 = .ok (.iadd, 1) := by decide +kernel
theorem dX11_saysSo_22 : decode cX11_saysSo 22 = .ok (.iload_n 1, 1) := by decide +kernel
theorem dX11_saysSo_23 : decode cX11_saysSo 23 = .ok (.iastore, 1) := by decide +kernel
theorem dX11_saysSo_24 : decode cX11_saysSo 24 = .ok (.aload_n 0, 1) := by decide +kernel
theorem dX11_saysSo_25 : decode cX11_saysSo 25 = .ok (.getfield 9, 3) := by decide +kernel
theorem dX11_saysSo_28 : decode cX11_saysSo 28 = .ok (.iload 4, 2) := by decide +kernel
theorem dX11_saysSo_30 : decode cX11_saysSo 30 = .ok (.iconst 1, 1) := by decide +kernel
theorem dX11_saysSo_31 : decode cX11_saysSo 31 = .ok (.iadd, 1) := by decide +kernel
theorem dX11_saysSo_32 : decode cX11_saysSo 32 = .ok (.iload_n 2, 1) := by decide +kernel
theorem dX11_saysSo_33 : decode cX11_saysSo 33 = .ok (.iastore, 1) := by decide +kernel
theorem dX11_saysSo_34 : decode cX11_saysSo 34 = .ok (.aload_n 0, 1) := by decide +kernel
theorem dX11_saysSo_35 : decode cX11_saysSo 35 = .ok (.getfield 9, 3) := by decide +kernel
theorem dX11_saysSo_38 : decode cX11_saysSo 38 = .ok (.iload 4, 2) := by decide +kernel
theorem dX11_saysSo_40 : decode cX11_saysSo 40 = .ok (.iconst 2, 1) := by decide +kernel
theorem dX11_saysSo_41 : decode cX11_saysSo 41 = .ok (.iadd, 1) := by decide +kernel
theorem dX11_saysSo_42 : decode cX11_saysSo 42 = .ok (.iload_n 3, 1) := by decide +kernel
theorem dX11_saysSo_43 : decode cX11_saysSo 43 = .ok (.ifCond .eq 7, 3) := by decide +kernel
theorem dX11_saysSo_46 : decode cX11_saysSo 46 = .ok (.iconst 1, 1) := by decide +kernel
theorem dX11_saysSo_47 : decode cX11_saysSo 47 = .ok (.goto 4, 3) := by decide +kernel
theorem dX11_saysSo_50 : decode cX11_saysSo 50 = .ok (.iconst 0, 1) := by decide +kernel
theorem dX11_saysSo_51 : decode cX11_saysSo 51 = .ok (.iastore, 1) := by decide +kernel
theorem dX11_saysSo_52 : decode cX11_saysSo 52 = .ok (.aload_n 0, 1) := by decide +kernel
theorem dX11_saysSo_53 : decode cX11_saysSo 53 = .ok (.getfield 9, 3) := by decide +kernel
theorem dX11_saysSo_56 : decode cX11_saysSo 56 = .ok (.iload 4, 2) := by decide +kernel
theorem dX11_saysSo_58 : decode cX11_saysSo 58 = .ok (.iconst 3, 1) := by decide +kernel
theorem dX11_saysSo_59 : decode cX11_saysSo 59 = .ok (.iadd, 1) := by decide +kernel
theorem dX11_saysSo_60 : decode cX11_saysSo 60 = .ok (.iconst 1, 1) := by decide +kernel
theorem dX11_saysSo_61 : decode cX11_saysSo 61 = .ok (.iastore, 1) := by decide +kernel
theorem dX11_saysSo_62 : decode cX11_saysSo 62 = .ok (.aload_n 0, 1) := by decide +kernel
theorem dX11_saysSo_63 : decode cX11_saysSo 63 = .ok (.getfield 9, 3) := by decide +kernel
theorem dX11_saysSo_66 : decode cX11_saysSo 66 = .ok (.iconst 1, 1) := by decide +kernel
theorem dX11_saysSo_67 : decode cX11_saysSo 67 = .ok (.dup2, 1) := by decide +kernel
theorem dX11_saysSo_68 : decode cX11_saysSo 68 = .ok (.iaload, 1) := by decide +kernel
theorem dX11_saysSo_69 : decode cX11_saysSo 69 = .ok (.iconst 1, 1) := by decide +kernel
theorem dX11_saysSo_70 : decode cX11_saysSo 70 = .ok (.iadd, 1) := by decide +kernel
theorem dX11_saysSo_71 : decode cX11_saysSo 71 = .ok (.iastore, 1) := by decide +kernel
theorem dX11_saysSo_72 : decode cX11_saysSo 72 = .ok (.return_, 1) := by decide +kernel
theorem dX11_say_0 : decode cX11_say 0 = .ok (.aload_n 0, 1) := by decide +kernel
theorem dX11_say_1 : decode cX11_say 1 = .ok (.iload_n 1, 1) := by decide +kernel
theorem dX11_say_2 : decode cX11_say 2 = .ok (.iload_n 2, 1) := by decide +kernel
theorem dX11_say_3 : decode cX11_say 3 = .ok (.invokevirtual 123, 3) := by decide +kernel
theorem dX11_say_6 : decode cX11_say 6 = .ok (.istore 4, 2) := by decide +kernel
theorem dX11_say_8 : decode cX11_say 8 = .ok (.iload 4, 2) := by decide +kernel
theorem dX11_say_10 : decode cX11_say 10 = .ok (.ifCond .eq 10, 3) := by decide +kernel
theorem dX11_say_13 : decode cX11_say 13 = .ok (.aload_n 0, 1) := by decide +kernel
theorem dX11_say_14 : decode cX11_say 14 = .ok (.iload 4, 2) := by decide +kernel
theorem dX11_say_16 : decode cX11_say 16 = .ok (.invokevirtual 88, 3) := by decide +kernel
theorem dX11_say_19 : decode cX11_say 19 = .ok (.ireturn, 1) := by decide +kernel
theorem dX11_say_20 : decode cX11_say 20 = .ok (.aload_n 0, 1) := by decide +kernel
theorem dX11_say_21 : decode cX11_say 21 = .ok (.iload_n 1, 1) := by decide +kernel
theorem dX11_say_22 : decode cX11_say 22 = .ok (.iload_n 2, 1) := by decide +kernel
theorem dX11_say_23 : decode cX11_say 23 = .ok (.iload_n 3, 1) := by decide +kernel
theorem dX11_say_24 : decode cX11_say 24 = .ok (.invokevirtual 126, 3) := by decide +kernel
theorem dX11_say_27 : decode cX11_say 27 = .ok (.aload_n 0, 1) := by decide +kernel
theorem dX11_say_28 : decode cX11_say 28 = .ok (.getfield 9, 3) := by decide +kernel
theorem dX11_say_31 : decode cX11_say 31 = .ok (.iconst 1, 1) := by decide +kernel
theorem dX11_say_32 : decode cX11_say 32 = .ok (.iaload, 1) := by decide +kernel
theorem dX11_say_33 : decode cX11_say 33 = .ok (.iconst 1, 1) := by decide +kernel
theorem dX11_say_34 : decode cX11_say 34 = .ok (.isub, 1) := by decide +kernel
theorem dX11_say_35 : decode cX11_say 35 = .ok (.ireturn, 1) := by decide +kernel
theorem dX11_sayingIs_0 : decode cX11_sayingIs 0 = .ok (.aload_n 0, 1) := by decide +kernel
theorem dX11_sayingIs_1 : decode cX11_sayingIs 1 = .ok (.iload_n 1, 1) := by decide +kernel
theorem dX11_sayingIs_2 : decode cX11_sayingIs 2 = .ok (.iconst 1, 1) := by decide +kernel
theorem dX11_sayingIs_3 : decode cX11_sayingIs 3 = .ok (.invokevirtual 101, 3) := by decide +kernel
theorem dX11_sayingIs_6 : decode cX11_sayingIs 6 = .ok (.ifCond .eq 21, 3) := by decide +kernel
theorem dX11_sayingIs_9 : decode cX11_sayingIs 9 = .ok (.iload_n 2, 1) := by decide +kernel
theorem dX11_sayingIs_10 : decode cX11_sayingIs 10 = .ok (.iconst 0, 1) := by decide +kernel
theorem dX11_sayingIs_11 : decode cX11_sayingIs 11 = .ok (.iconst 3, 1) := by decide +kernel
theorem dX11_sayingIs_12 : decode cX11_sayingIs 12 = .ok (.invokestatic 83, 3) := by decide +kernel
theorem dX11_sayingIs_15 : decode cX11_sayingIs 15 = .ok (.ifCond .eq 12, 3) := by decide +kernel
theorem dX11_sayingIs_18 : decode cX11_sayingIs 18 = .ok (.aload_n 0, 1) := by decide +kernel
theorem dX11_sayingIs_19 : decode cX11_sayingIs 19 = .ok (.iload_n 1, 1) := by decide +kernel
theorem dX11_sayingIs_20 : decode cX11_sayingIs 20 = .ok (.iload_n 2, 1) := by decide +kernel
theorem dX11_sayingIs_21 : decode cX11_sayingIs 21 = .ok (.invokevirtual 97, 3) := by decide +kernel
theorem dX11_sayingIs_24 : decode cX11_sayingIs 24 = .ok (.goto 9, 3) := by decide +kernel
theorem dX11_sayingIs_27 : decode cX11_sayingIs 27 = .ok (.aload_n 0, 1) := by decide +kernel
theorem dX11_sayingIs_28 : decode cX11_sayingIs 28 = .ok (.ldc 87, 2) := by decide +kernel
theorem dX11_sayingIs_30 : decode cX11_sayingIs 30 = .ok (.invokevirtual 88, 3) := by decide +kernel
theorem dX11_sayingIs_33 : decode cX11_sayingIs 33 = .ok (.ireturn, 1) := by decide +kernel
theorem dX11_unsay_0 : decode cX11_unsay 0 = .ok (.aload_n 0, 1) := by decide +kernel
theorem dX11_unsay_1 : decode cX11_unsay 1 = .ok (.iload_n 1, 1) := by decide +kernel
theorem dX11_unsay_2 : decode cX11_unsay 2 = .ok (.iconst 1, 1) := by decide +kernel
theorem dX11_unsay_3 : decode cX11_unsay 3 = .ok (.invokevirtual 101, 3) := by decide +kernel
theorem dX11_unsay_6 : decode cX11_unsay 6 = .ok (.ifCond .ne 10, 3) := by decide +kernel
theorem dX11_unsay_9 : decode cX11_unsay 9 = .ok (.aload_n 0, 1) := by decide +kernel
theorem dX11_unsay_10 : decode cX11_unsay 10 = .ok (.ldc 87, 2) := by decide +kernel
theorem dX11_unsay_12 : decode cX11_unsay 12 = .ok (.invokevirtual 88, 3) := by decide +kernel
theorem dX11_unsay_15 : decode cX11_unsay 15 = .ok (.ireturn, 1) := by decide +kernel
theorem dX11_unsay_16 : decode cX11_unsay 16 = .ok (.aload_n 0, 1) := by decide +kernel
theorem dX11_unsay_17 : decode cX11_unsay 17 = .ok (.iload_n 1, 1) := by decide +kernel
theorem dX11_unsay_18 : decode cX11_unsay 18 = .ok (.invokevirtual 111, 3) := by decide +kernel
theorem dX11_unsay_21 : decode cX11_unsay 21 = .ok (.ifCond .ne 10, 3) := by decide +kernel
theorem dX11_unsay_24 : decode cX11_unsay 24 = .ok (.aload_n 0, 1) := by decide +kernel
theorem dX11_unsay_25 : decode cX11_unsay 25 = .ok (.ldc 122, 2) := by decide +kernel
theorem dX11_unsay_27 : decode cX11_unsay 27 = .ok (.invokevirtual 88, 3) := by decide +kernel
theorem dX11_unsay_30 : decode cX11_unsay 30 = .ok (.ireturn, 1) := by decide +kernel
theorem dX11_unsay_31 : decode cX11_unsay 31 = .ok (.aload_n 0, 1) := by decide +kernel
theorem dX11_unsay_32 : decode cX11_unsay 32 = .ok (.getfield 9, 3) := by decide +kernel
theorem dX11_unsay_35 : decode cX11_unsay 35 = .ok (.sipush 185, 3) := by decide +kernel
theorem dX11_unsay_38 : decode cX11_unsay 38 = .ok (.iconst 4, 1) := by decide +kernel
theorem dX11_unsay_39 : decode cX11_unsay 39 = .ok (.iload_n 1, 1) := by decide +kernel
theorem dX11_unsay_40 : decode cX11_unsay 40 = .ok (.imul, 1) := by decide +kernel
theorem dX11_unsay_41 : decode cX11_unsay 41 = .ok (.iadd, 1) := by decide +kernel
theorem dX11_unsay_42 : decode cX11_unsay 42 = .ok (.iconst 3, 1) := by decide +kernel
theorem dX11_unsay_43 : decode cX11_unsay 43 = .ok (.iadd, 1) := by decide +kernel
theorem dX11_unsay_44 : decode cX11_unsay 44 = .ok (.iconst 0, 1) := by decide +kernel
theorem dX11_unsay_45 : decode cX11_unsay 45 = .ok (.iastore, 1) := by decide +kernel
theorem dX11_unsay_46 : decode cX11_unsay 46 = .ok (.iconst 1, 1) := by decide +kernel
theorem dX11_unsay_47 : decode cX11_unsay 47 = .ok (.ireturn, 1) := by decide +kernel
theorem dX11_most_0 : decode cX11_most 0 = .ok (.iload_n 1, 1) := by decide +kernel
theorem dX11_most_1 : decode cX11_most 1 = .ok (.iconst 0, 1) := by decide +kernel
theorem dX11_most_2 : decode cX11_most 2 = .ok (.bipush 12, 2) := by decide +kernel
theorem dX11_most_4 : decode cX11_most 4 = .ok (.invokestatic 83, 3) := by decide +kernel
theorem dX11_most_7 : decode cX11_most 7 = .ok (.ifCond .ne 10, 3) := by decide +kernel
theorem dX11_most_10 : decode cX11_most 10 = .ok (.aload_n 0, 1) := by decide +kernel
theorem dX11_most_11 : decode cX11_most 11 = .ok (.ldc 87, 2) := by decide +kernel
theorem dX11_most_13 : decode cX11_most 13 = .ok (.invokevirtual 88, 3) := by decide +kernel
theorem dX11_most_16 : decode cX11_most 16 = .ok (.ireturn, 1) := by decide +kernel
theorem dX11_most_17 : decode cX11_most 17 = .ok (.aload_n 0, 1) := by decide +kernel
theorem dX11_most_18 : decode cX11_most 18 = .ok (.getfield 9, 3) := by decide +kernel
theorem dX11_most_21 : decode cX11_most 21 = .ok (.iconst 2, 1) := by decide +kernel
theorem dX11_most_22 : decode cX11_most 22 = .ok (.iaload, 1) := by decide +kernel
theorem dX11_most_23 : decode cX11_most 23 = .ok (.istore_n 2, 1) := by decide +kernel
theorem dX11_most_24 : decode cX11_most 24 = .ok (.aload_n 0, 1) := by decide +kernel
theorem dX11_most_25 : decode cX11_most 25 = .ok (.getfield 9, 3) := by decide +kernel
theorem dX11_most_28 : decode cX11_most 28 = .ok (.iconst 2, 1) := by decide +kernel
theorem dX11_most_29 : decode cX11_most 29 = .ok (.iload_n 1, 1) := by decide +kernel
theorem dX11_most_30 : decode cX11_most 30 = .ok (.iastore, 1) := by decide +kernel
theorem dX11_most_31 : decode cX11_most 31 = .ok (.iload_n 2, 1) := by decide +kernel
theorem dX11_most_32 : decode cX11_most 32 = .ok (.ireturn, 1) := by decide +kernel
theorem dX11_feed_0 : decode cX11_feed 0 = .ok (.iload_n 3, 1) := by decide +kernel
theorem dX11_feed_1 : decode cX11_feed 1 = .ok (.iconst 1, 1) := by decide +kernel
theorem dX11_feed_2 : decode cX11_feed 2 = .ok (.bipush 8, 2) := by decide +kernel
theorem dX11_feed_4 : decode cX11_feed 4 = .ok (.invokestatic 83, 3) := by decide +kernel
theorem dX11_feed_7 : decode cX11_feed 7 = .ok (.ifCond .ne 10, 3) := by decide +kernel
theorem dX11_feed_10 : decode cX11_feed 10 = .ok (.aload_n 0, 1) := by decide +kernel
theorem dX11_feed_11 : decode cX11_feed 11 = .ok (.ldc 87, 2) := by decide +kernel
theorem dX11_feed_13 : decode cX11_feed 13 = .ok (.invokevirtual 88, 3) := by decide +kernel
theorem dX11_feed_16 : decode cX11_feed 16 = .ok (.ireturn, 1) := by decide +kernel
theorem dX11_feed_17 : decode cX11_feed 17 = .ok (.aload_n 0, 1) := by decide +kernel
theorem dX11_feed_18 : decode cX11_feed 18 = .ok (.getfield 9, 3) := by decide +kernel
theorem dX11_feed_21 : decode cX11_feed 21 = .ok (.iconst 3, 1) := by decide +kernel
theorem dX11_feed_22 : decode cX11_feed 22 = .ok (.iaload, 1) := by decide +kernel
theorem dX11_feed_23 : decode cX11_feed 23 = .ok (.iload_n 3, 1) := by decide +kernel
theorem dX11_feed_24 : decode cX11_feed 24 = .ok (.iadd, 1) := by decide +kernel
theorem dX11_feed_25 : decode cX11_feed 25 = .ok (.bipush 80, 2) := by decide +kernel
theorem dX11_feed_27 : decode cX11_feed 27 = .ok (.if_icmp .le 10, 3) := by decide +kernel
theorem dX11_feed_30 : decode cX11_feed 30 = .ok (.aload_n 0, 1) := by decide +kernel
theorem dX11_feed_31 : decode cX11_feed 31 = .ok (.ldc 92, 2) := by decide +kernel
theorem dX11_feed_33 : decode cX11_feed 33 = .ok (.invokevirtual 88, 3) := by decide +kernel
theorem dX11_feed_36 : decode cX11_feed 36 = .ok (.ireturn, 1) := by decide +kernel
theorem dX11_feed_37 : decode cX11_feed 37 = .ok (.iconst 0, 1) := by decide +kernel
theorem dX11_feed_38 : decode cX11_feed 38 = .ok (.istore 4, 2) := by decide +kernel
theorem dX11_feed_40 : decode cX11_feed 40 = .ok (.iload 4, 2) := by decide +kernel
theorem dX11_feed_42 : decode cX11_feed 42 = .ok (.iload_n 3, 1) := by decide +kernel
theorem dX11_feed_43 : decode cX11_feed 43 = .ok (.if_icmp .ge 46, 3) := by decide +kernel
theorem dX11_feed_46 : decode cX11_feed 46 = .ok (.aload_n 0, 1) := by decide +kernel
theorem dX11_feed_47 : decode cX11_feed 47 = .ok (.getfield 9, 3) := by decide +kernel
theorem dX11_feed_50 : decode cX11_feed 50 = .ok (.sipush 425, 3) := by decide +kernel
theorem dX11_feed_53 : decode cX11_feed 53 = .ok (.aload_n 0, 1) := by decide +kernel
theorem dX11_feed_54 : decode cX11_feed 54 = .ok (.getfield 9, 3) := by decide +kernel
theorem dX11_feed_57 : decode cX11_feed 57 = .ok (.iconst 3, 1) := by decide +kernel
theorem dX11_feed_58 : decode cX11_feed 58 = .ok (.iaload, 1) := by decide +kernel
theorem dX11_feed_59 : decode cX11_feed 59 = .ok (.iadd, 1) := by decide +kernel
theorem dX11_feed_60 : decode cX11_feed 60 = .ok (.lload_n 1, 1) := by decide +kernel
theorem dX11_feed_61 : decode cX11_feed 61 = .ok (.bipush 8, 2) := by decide +kernel
theorem dX11_feed_63 : decode cX11_feed 63 = .ok (.iload 4, 2) := by decide +kernel
theorem dX11_feed_65 : decode cX11_feed 65 = .ok (.imul, 1) := by decide +kernel
theorem dX11_feed_66 : decode cX11_feed 66 = .ok (.lshr, 1) := by decide +kernel
theorem dX11_feed_67 : decode cX11_feed 67 = .ok (.ldc2_w 130, 3) := by decide +kernel
theorem dX11_feed_70 : decode cX11_feed 70 = .ok (.land, 1) := by decide +kernel
theorem dX11_feed_71 : decode cX11_feed 71 = .ok (.l2i, 1) := by decide +kernel
theorem dX11_feed_72 : decode cX11_feed 72 = .ok (.iastore, 1) := by decide +kernel
theorem dX11_feed_73 : decode cX11_feed 73 = .ok (.aload_n 0, 1) := by decide +kernel
theorem dX11_feed_74 : decode cX11_feed 74 = .ok (.getfield 9, 3) := by decide +kernel
theorem dX11_feed_77 : decode cX11_feed 77 = .ok (.iconst 3, 1) := by decide +kernel
theorem dX11_feed_78 : decode cX11_feed 78 = .ok (.dup2, 1) := by decide +kernel
theorem dX11_feed_79 : decode cX11_feed 79 = .ok (.iaload, 1) := by decide +kernel
theorem dX11_feed_80 : decode cX11_feed 80 = .ok (.iconst 1, 1) := by decide +kernel
theorem dX11_feed_81 : decode cX11_feed 81 = .ok (.iadd, 1) := by decide +kernel
theorem dX11_feed_82 : decode cX11_feed 82 = .ok (.iastore, 1) := by decide +kernel
theorem dX11_feed_83 : decode cX11_feed 83 = .ok (.iinc 4 1, 3) := by decide +kernel
theorem dX11_feed_86 : decode cX11_feed 86 = .ok (.goto (-46), 3) := by decide +kernel
theorem dX11_feed_89 : decode cX11_feed 89 = .ok (.aload_n 0, 1) := by decide +kernel
theorem dX11_feed_90 : decode cX11_feed 90 = .ok (.getfield 9, 3) := by decide +kernel
theorem dX11_feed_93 : decode cX11_feed 93 = .ok (.iconst 3, 1) := by decide +kernel
theorem dX11_feed_94 : decode cX11_feed 94 = .ok (.iaload, 1) := by decide +kernel
theorem dX11_feed_95 : decode cX11_feed 95 = .ok (.ireturn, 1) := by decide +kernel
theorem dX11_isByte_0 : decode cX11_isByte 0 = .ok (.iload_n 1, 1) := by decide +kernel
theorem dX11_isByte_1 : decode cX11_isByte 1 = .ok (.aload_n 0, 1) := by decide +kernel
theorem dX11_isByte_2 : decode cX11_isByte 2 = .ok (.getfield 9, 3) := by decide +kernel
theorem dX11_isByte_5 : decode cX11_isByte 5 = .ok (.iconst 3, 1) := by decide +kernel
theorem dX11_isByte_6 : decode cX11_isByte 6 = .ok (.iaload, 1) := by decide +kernel
theorem dX11_isByte_7 : decode cX11_isByte 7 = .ok (.if_icmp .ge 25, 3) := by decide +kernel
theorem dX11_isByte_10 : decode cX11_isByte 10 = .ok (.aload_n 0, 1) := by decide +kernel
theorem dX11_isByte_11 : decode cX11_isByte 11 = .ok (.getfield 9, 3) := by decide +kernel
theorem dX11_isByte_14 : decode cX11_isByte 14 = .ok (.sipush 425, 3) := by decide +kernel
theorem dX11_isByte_17 : decode cX11_isByte 17 = .ok (.iload_n 1, 1) := by decide +kernel
theorem dX11_isByte_18 : decode cX11_isByte 18 = .ok (.iadd, 1) := by decide +kernel
theorem dX11_isByte_19 : decode cX11_isByte 19 = .ok (.iaload, 1) := by decide +kernel
theorem dX11_isByte_20 : decode cX11_isByte 20 = .ok (.iload_n 2, 1) := by decide +kernel
theorem dX11_isByte_21 : decode cX11_isByte 21 = .ok (.iload_n 3, 1) := by decide +kernel
theorem dX11_isByte_22 : decode cX11_isByte 22 = .ok (.invokestatic 83, 3) := by decide +kernel
theorem dX11_isByte_25 : decode cX11_isByte 25 = .ok (.ifCond .eq 7, 3) := by decide +kernel
theorem dX11_isByte_28 : decode cX11_isByte 28 = .ok (.iconst 1, 1) := by decide +kernel
theorem dX11_isByte_29 : decode cX11_isByte 29 = .ok (.goto 4, 3) := by decide +kernel
theorem dX11_isByte_32 : decode cX11_isByte 32 = .ok (.iconst 0, 1) := by decide +kernel
theorem dX11_isByte_33 : decode cX11_isByte 33 = .ok (.ireturn, 1) := by decide +kernel
theorem dX11_goOn_0 : decode cX11_goOn 0 = .ok (.aload_n 0, 1) := by decide +kernel
theorem dX11_goOn_1 : decode cX11_goOn 1 = .ok (.aload_n 0, 1) := by decide +kernel
theorem dX11_goOn_2 : decode cX11_goOn 2 = .ok (.getfield 132, 3) := by decide +kernel
theorem dX11_goOn_5 : decode cX11_goOn 5 = .ok (.putfield 136, 3) := by decide +kernel
theorem dX11_goOn_8 : decode cX11_goOn 8 = .ok (.aload_n 0, 1) := by decide +kernel
theorem dX11_goOn_9 : decode cX11_goOn 9 = .ok (.aload_n 0, 1) := by decide +kernel
theorem dX11_goOn_10 : decode cX11_goOn 10 = .ok (.getfield 136, 3) := by decide +kernel
theorem dX11_goOn_13 : decode cX11_goOn 13 = .ok (.bipush 32, 2) := by decide +kernel
theorem dX11_goOn_15 : decode cX11_goOn 15 = .ok (.bipush 32, 2) := by decide +kernel
theorem dX11_goOn_17 : decode cX11_goOn 17 = .ok (.invokevirtual 139, 3) := by decide +kernel
theorem dX11_goOn_20 : decode cX11_goOn 20 = .ok (.ifCond .eq 16, 3) := by decide +kernel
theorem dX11_goOn_23 : decode cX11_goOn 23 = .ok (.aload_n 0, 1) := by decide +kernel
theorem dX11_goOn_24 : decode cX11_goOn 24 = .ok (.dup, 1) := by decide +kernel
theorem dX11_goOn_25 : decode cX11_goOn 25 = .ok (.getfield 136, 3) := by decide +kernel
theorem dX11_goOn_28 : decode cX11_goOn 28 = .ok (.iconst 1, 1) := by decide +kernel
theorem dX11_goOn_29 : decode cX11_goOn 29 = .ok (.iadd, 1) := by decide +kernel
theorem dX11_goOn_30 : decode cX11_goOn 30 = .ok (.putfield 136, 3) := by decide +kernel
theorem dX11_goOn_33 : decode cX11_goOn 33 = .ok (.goto (-25), 3) := by decide +kernel
theorem dX11_goOn_36 : decode cX11_goOn 36 = .ok (.aload_n 0, 1) := by decide +kernel
theorem dX11_goOn_37 : decode cX11_goOn 37 = .ok (.aload_n 0, 1) := by decide +kernel
theorem dX11_goOn_38 : decode cX11_goOn 38 = .ok (.getfield 136, 3) := by decide +kernel
theorem dX11_goOn_41 : decode cX11_goOn 41 = .ok (.putfield 132, 3) := by decide +kernel
theorem dX11_goOn_44 : decode cX11_goOn 44 = .ok (.aload_n 0, 1) := by decide +kernel
theorem dX11_goOn_45 : decode cX11_goOn 45 = .ok (.aload_n 0, 1) := by decide +kernel
theorem dX11_goOn_46 : decode cX11_goOn 46 = .ok (.getfield 136, 3) := by decide +kernel
theorem dX11_goOn_49 : decode cX11_goOn 49 = .ok (.bipush 97, 2) := by decide +kernel
theorem dX11_goOn_51 : decode cX11_goOn 51 = .ok (.bipush 122, 2) := by decide +kernel
theorem dX11_goOn_53 : decode cX11_goOn 53 = .ok (.invokevirtual 139, 3) := by decide +kernel
theorem dX11_goOn_56 : decode cX11_goOn 56 = .ok (.istore_n 1, 1) := by decide +kernel
theorem dX11_goOn_57 : decode cX11_goOn 57 = .ok (.aload_n 0, 1) := by decide +kernel
theorem dX11_goOn_58 : decode cX11_goOn 58 = .ok (.aload_n 0, 1) := by decide +kernel
theorem dX11_goOn_59 : decode cX11_goOn 59 = .ok (.getfield 136, 3) := by decide +kernel
theorem dX11_goOn_62 : decode cX11_goOn 62 = .ok (.bipush 48, 2) := by decide +kernel
theorem dX11_goOn_64 : decode cX11_goOn 64 = .ok (.bipush 57, 2) := by decide +kernel
theorem dX11_goOn_66 : decode cX11_goOn 66 = .ok (.invokevirtual 139, 3) := by decide +kernel
theorem dX11_goOn_69 : decode cX11_goOn 69 = .ok (.istore_n 2, 1) := by decide +kernel
theorem dX11_goOn_70 : decode cX11_goOn 70 = .ok (.aload_n 0, 1) := by decide +kernel
theorem dX11_goOn_71 : decode cX11_goOn 71 = .ok (.dup, 1) := by decide +kernel
theorem dX11_goOn_72 : decode cX11_goOn 72 = .ok (.getfield 132, 3) := by decide +kernel
theorem dX11_goOn_75 : decode cX11_goOn 75 = .ok (.aload_n 0, 1) := by decide +kernel
theorem dX11_goOn_76 : decode cX11_goOn 76 = .ok (.getfield 136, 3) := by decide +kernel
theorem dX11_goOn_79 : decode cX11_goOn 79 = .ok (.aload_n 0, 1) := by decide +kernel
theorem dX11_goOn_80 : decode cX11_goOn 80 = .ok (.getfield 9, 3) := by decide +kernel
theorem dX11_goOn_83 : decode cX11_goOn 83 = .ok (.iconst 3, 1) := by decide +kernel
theorem dX11_goOn_84 : decode cX11_goOn 84 = .ok (.iaload, 1) := by decide +kernel
theorem dX11_goOn_85 : decode cX11_goOn 85 = .ok (.if_icmp .ge 7, 3) := by decide +kernel
theorem dX11_goOn_88 : decode cX11_goOn 88 = .ok (.iconst 1, 1) := by decide +kernel
theorem dX11_goOn_89 : decode cX11_goOn 89 = .ok (.goto 4, 3) := by decide +kernel
theorem dX11_goOn_92 : decode cX11_goOn 92 = .ok (.iconst 0, 1) := by decide +kernel
theorem dX11_goOn_93 : decode cX11_goOn 93 = .ok (.iadd, 1) := by decide +kernel
theorem dX11_goOn_94 : decode cX11_goOn 94 = .ok (.putfield 132, 3) := by decide +kernel
theorem dX11_goOn_97 : decode cX11_goOn 97 = .ok (.iload_n 1, 1) := by decide +kernel
theorem dX11_goOn_98 : decode cX11_goOn 98 = .ok (.ifCond .eq 18, 3) := by decide +kernel
theorem dX11_goOn_101 : decode cX11_goOn 101 = .ok (.aload_n 0, 1) := by decide +kernel
theorem dX11_goOn_102 : decode cX11_goOn 102 = .ok (.aload_n 0, 1) := by decide +kernel
theorem dX11_goOn_103 : decode cX11_goOn 103 = .ok (.getfield 132, 3) := by decide +kernel
theorem dX11_goOn_106 : decode cX11_goOn 106 = .ok (.bipush 97, 2) := by decide +kernel
theorem dX11_goOn_108 : decode cX11_goOn 108 = .ok (.bipush 122, 2) := by decide +kernel
theorem dX11_goOn_110 : decode cX11_goOn 110 = .ok (.invokevirtual 139, 3) := by decide +kernel
theorem dX11_goOn_113 : decode cX11_goOn 113 = .ok (.ifCond .ne 22, 3) := by decide +kernel
theorem dX11_goOn_116 : decode cX11_goOn 116 = .ok (.iload_n 2, 1) := by decide +kernel
theorem dX11_goOn_117 : decode cX11_goOn 117 = .ok (.ifCond .eq 31, 3) := by decide +kernel
theorem dX11_goOn_120 : decode cX11_goOn 120 = .ok (.aload_n 0, 1) := by decide +kernel
theorem dX11_goOn_121 : decode cX11_goOn 121 = .ok (.aload_n 0, 1) := by decide +kernel
theorem dX11_goOn_122 : decode cX11_goOn 122 = .ok (.getfield 132, 3) := by decide +kernel
theorem dX11_goOn_125 : decode cX11_goOn 125 = .ok (.bipush 48, 2) := by decide +kernel
theorem dX11_goOn_127 : decode cX11_goOn 127 = .ok (.bipush 57, 2) := by decide +kernel
theorem dX11_goOn_129 : decode cX11_goOn 129 = .ok (.invokevirtual 139, 3) := by decide +kernel
theorem dX11_goOn_132 : decode cX11_goOn 132 = .ok (.ifCond .eq 16, 3) := by decide +kernel
theorem dX11_goOn_135 : decode cX11_goOn 135 = .ok (.aload_n 0, 1) := by decide +kernel
theorem dX11_goOn_136 : decode cX11_goOn 136 = .ok (.dup, 1) := by decide +kernel
theorem dX11_goOn_137 : decode cX11_goOn 137 = .ok (.getfield 132, 3) := by decide +kernel
theorem dX11_goOn_140 : decode cX11_goOn 140 = .ok (.iconst 1, 1) := by decide +kernel
theorem dX11_goOn_141 : decode cX11_goOn 141 = .ok (.iadd, 1) := by decide +kernel
theorem dX11_goOn_142 : decode cX11_goOn 142 = .ok (.putfield 132, 3) := by decide +kernel
theorem dX11_goOn_145 : decode cX11_goOn 145 = .ok (.goto (-48), 3) := by decide +kernel
theorem dX11_goOn_148 : decode cX11_goOn 148 = .ok (.return_, 1) := by decide +kernel
theorem dX11_isAt_0 : decode cX11_isAt 0 = .ok (.aload_n 0, 1) := by decide +kernel
theorem dX11_isAt_1 : decode cX11_isAt 1 = .ok (.getfield 142, 3) := by decide +kernel
theorem dX11_isAt_4 : decode cX11_isAt 4 = .ok (.ifCond .ne 23, 3) := by decide +kernel
theorem dX11_isAt_7 : decode cX11_isAt 7 = .ok (.aload_n 0, 1) := by decide +kernel
theorem dX11_isAt_8 : decode cX11_isAt 8 = .ok (.getfield 132, 3) := by decide +kernel
theorem dX11_isAt_11 : decode cX11_isAt 11 = .ok (.aload_n 0, 1) := by decide +kernel
theorem dX11_isAt_12 : decode cX11_isAt 12 = .ok (.getfield 136, 3) := by decide +kernel
theorem dX11_isAt_15 : decode cX11_isAt 15 = .ok (.isub, 1) := by decide +kernel
theorem dX11_isAt_16 : decode cX11_isAt 16 = .ok (.aload_n 1, 1) := by decide +kernel
theorem dX11_isAt_17 : decode cX11_isAt 17 = .ok (.invokevirtual 146, 3) := by decide +kernel
theorem dX11_isAt_20 : decode cX11_isAt 20 = .ok (.if_icmp .ne 7, 3) := by decide +kernel
theorem dX11_isAt_23 : decode cX11_isAt 23 = .ok (.iconst 1, 1) := by decide +kernel
theorem dX11_isAt_24 : decode cX11_isAt 24 = .ok (.goto 4, 3) := by decide +kernel
theorem dX11_isAt_27 : decode cX11_isAt 27 = .ok (.iconst 0, 1) := by decide +kernel
theorem dX11_isAt_28 : decode cX11_isAt 28 = .ok (.istore_n 2, 1) := by decide +kernel
theorem dX11_isAt_29 : decode cX11_isAt 29 = .ok (.iconst 0, 1) := by decide +kernel
theorem dX11_isAt_30 : decode cX11_isAt 30 = .ok (.istore_n 3, 1) := by decide +kernel
theorem dX11_isAt_31 : decode cX11_isAt 31 = .ok (.iload_n 2, 1) := by decide +kernel
theorem dX11_isAt_32 : decode cX11_isAt 32 = .ok (.ifCond .eq 46, 3) := by decide +kernel
theorem dX11_isAt_35 : decode cX11_isAt 35 = .ok (.iload_n 3, 1) := by decide +kernel
theorem dX11_isAt_36 : decode cX11_isAt 36 = .ok (.aload_n 1, 1) := by decide +kernel
theorem dX11_isAt_37 : decode cX11_isAt 37 = .ok (.invokevirtual 146, 3) := by decide +kernel
theorem dX11_isAt_40 : decode cX11_isAt 40 = .ok (.if_icmp .ge 38, 3) := by decide +kernel
theorem dX11_isAt_43 : decode cX11_isAt 43 = .ok (.aload_n 0, 1) := by decide +kernel
theorem dX11_isAt_44 : decode cX11_isAt 44 = .ok (.getfield 9, 3) := by decide +kernel
theorem dX11_isAt_47 : decode cX11_isAt 47 = .ok (.sipush 425, 3) := by decide +kernel
theorem dX11_isAt_50 : decode cX11_isAt 50 = .ok (.aload_n 0, 1) := by decide +kernel
theorem dX11_isAt_51 : decode cX11_isAt 51 = .ok (.getfield 136, 3) := by decide +kernel
theorem dX11_isAt_54 : decode cX11_isAt 54 = .ok (.iadd, 1) := by decide +kernel
theorem dX11_isAt_55 : decode cX11_isAt 55 = .ok (.iload_n 3, 1) := by decide +kernel
theorem dX11_isAt_56 : decode cX11_isAt 56 = .ok (.iadd, 1) := by decide +kernel
theorem dX11_isAt_57 : decode cX11_isAt 57 = .ok (.iaload, 1) := by decide +kernel
theorem dX11_isAt_58 : decode cX11_isAt 58 = .ok (.aload_n 1, 1) := by decide +kernel
theorem dX11_isAt_59 : decode cX11_isAt 59 = .ok (.iload_n 3, 1) := by decide +kernel
theorem dX11_isAt_60 : decode cX11_isAt 60 = .ok (.invokevirtual 150, 3) := by decide +kernel
theorem dX11_isAt_63 : decode cX11_isAt 63 = .ok (.if_icmp .ne 7, 3) := by decide +kernel
theorem dX11_isAt_66 : decode cX11_isAt 66 = .ok (.iconst 1, 1) := by decide +kernel
theorem dX11_isAt_67 : decode cX11_isAt 67 = .ok (.goto 4, 3) := by decide +kernel
theorem dX11_isAt_70 : decode cX11_isAt 70 = .ok (.iconst 0, 1) := by decide +kernel
theorem dX11_isAt_71 : decode cX11_isAt 71 = .ok (.istore_n 2, 1) := by decide +kernel
theorem dX11_isAt_72 : decode cX11_isAt 72 = .ok (.iinc 3 1, 3) := by decide +kernel
theorem dX11_isAt_75 : decode cX11_isAt 75 = .ok (.goto (-44), 3) := by decide +kernel
theorem dX11_isAt_78 : decode cX11_isAt 78 = .ok (.iload_n 2, 1) := by decide +kernel
theorem dX11_isAt_79 : decode cX11_isAt 79 = .ok (.ireturn, 1) := by decide +kernel
theorem dX11_takes_0 : decode cX11_takes 0 = .ok (.aload_n 0, 1) := by decide +kernel
theorem dX11_takes_1 : decode cX11_takes 1 = .ok (.aload_n 1, 1) := by decide +kernel
theorem dX11_takes_2 : decode cX11_takes 2 = .ok (.invokevirtual 154, 3) := by decide +kernel
theorem dX11_takes_5 : decode cX11_takes 5 = .ok (.istore_n 2, 1) := by decide +kernel
theorem dX11_takes_6 : decode cX11_takes 6 = .ok (.iload_n 2, 1) := by decide +kernel
theorem dX11_takes_7 : decode cX11_takes 7 = .ok (.ifCond .eq 7, 3) := by decide +kernel
theorem dX11_takes_10 : decode cX11_takes 10 = .ok (.aload_n 0, 1) := by decide +kernel
theorem dX11_takes_11 : decode cX11_takes 11 = .ok (.invokevirtual 158, 3) := by decide +kernel
theorem dX11_takes_14 : decode cX11_takes 14 = .ok (.iload_n 2, 1) := by decide +kernel
theorem dX11_takes_15 : decode cX11_takes 15 = .ok (.ireturn, 1) := by decide +kernel
theorem dX11_number_0 : decode cX11_number 0 = .ok (.iconst 0, 1) := by decide +kernel
theorem dX11_number_1 : decode cX11_number 1 = .ok (.istore_n 3, 1) := by decide +kernel
theorem dX11_number_2 : decode cX11_number 2 = .ok (.aload_n 0, 1) := by decide +kernel
theorem dX11_number_3 : decode cX11_number 3 = .ok (.aload_n 0, 1) := by decide +kernel
theorem dX11_number_4 : decode cX11_number 4 = .ok (.getfield 142, 3) := by decide +kernel
theorem dX11_number_7 : decode cX11_number 7 = .ok (.ifCond .ne 31, 3) := by decide +kernel
theorem dX11_number_10 : decode cX11_number 10 = .ok (.aload_n 0, 1) := by decide +kernel
theorem dX11_number_11 : decode cX11_number 11 = .ok (.aload_n 0, 1) := by decide +kernel
theorem dX11_number_12 : decode cX11_number 12 = .ok (.getfield 136, 3) := by decide +kernel
theorem dX11_number_15 : decode cX11_number 15 = .ok (.bipush 48, 2) := by decide +kernel
theorem dX11_number_17 : decode cX11_number 17 = .ok (.bipush 57, 2) := by decide +kernel
theorem dX11_number_19 : decode cX11_number 19 = .ok (.invokevirtual 139, 3) := by decide +kernel
theorem dX11_number_22 : decode cX11_number 22 = .ok (.ifCond .eq 16, 3) := by decide +kernel
theorem dX11_number_25 : decode cX11_number 25 = .ok (.aload_n 0, 1) := by decide +kernel
theorem dX11_number_26 : decode cX11_number 26 = .ok (.getfield 132, 3) := by decide +kernel
theorem dX11_number_29 : decode cX11_number 29 = .ok (.aload_n 0, 1) := by decide +kernel
theorem dX11_number_30 : decode cX11_number 30 = .ok (.getfield 136, 3) := by decide +kernel
theorem dX11_number_33 : decode cX11_number 33 = .ok (.isub, 1) := by decide +kernel
theorem dX11_number_34 : decode cX11_number 34 = .ok (.iconst 3, 1) := by decide +kernel
theorem dX11_number_35 : decode cX11_number 35 = .ok (.if_icmp .le 7, 3) := by decide +kernel
theorem dX11_number_38 : decode cX11_number 38 = .ok (.iconst 1, 1) := by decide +kernel
theorem dX11_number_39 : decode cX11_number 39 = .ok (.goto 4, 3) := by decide +kernel
theorem dX11_number_42 : decode cX11_number 42 = .ok (.iconst 0, 1) := by decide +kernel
theorem dX11_number_43 : decode cX11_number 43 = .ok (.putfield 142, 3) := by decide +kernel
theorem dX11_number_46 : decode cX11_number 46 = .ok (.aload_n 0, 1) := by decide +kernel
theorem dX11_number_47 : decode cX11_number 47 = .ok (.getfield 136, 3) := by decide +kernel
theorem dX11_number_50 : decode cX11_number 50 = .ok (.istore 4, 2) := by decide +kernel
theorem dX11_number_52 : decode cX11_number 52 = .ok (.iload 4, 2) := by decide +kernel
theorem dX11_number_54 : decode cX11_number 54 = .ok (.aload_n 0, 1) := by decide +kernel
theorem dX11_number_55 : decode cX11_number 55 = .ok (.getfield 132, 3) := by decide +kernel
theorem dX11_number_58 : decode cX11_number 58 = .ok (.if_icmp .ge 36, 3) := by decide +kernel
theorem dX11_number_61 : decode cX11_number 61 = .ok (.aload_n 0, 1) := by decide +kernel
theorem dX11_number_62 : decode cX11_number 62 = .ok (.getfield 142, 3) := by decide +kernel
theorem dX11_number_65 : decode cX11_number 65 = .ok (.ifCond .ne 29, 3) := by decide +kernel
theorem dX11_number_68 : decode cX11_number 68 = .ok (.bipush 10, 2) := by decide +kernel
theorem dX11_number_70 : decode cX11_number 70 = .ok (.iload_n 3, 1) := by decide +kernel
theorem dX11_number_71 : decode cX11_number 71 = .ok (.imul, 1) := by decide +kernel
theorem dX11_number_72 : decode cX11_number 72 = .ok (.aload_n 0, 1) := by decide +kernel
theorem dX11_number_73 : decode cX11_number 73 = .ok (.getfield 9, 3) := by decide +kernel
theorem dX11_number_76 : decode cX11_number 76 = .ok (.sipush 425, 3) := by decide +kernel
theorem dX11_number_79 : decode cX11_number 79 = .ok (.iload 4, 2) := by decide +kernel
theorem dX11_number_81 : decode cX11_number 81 = .ok (.iadd, 1) := by decide +kernel
theorem dX11_number_82 : decode cX11_number 82 = .ok (.iaload, 1) := by decide +kernel
theorem dX11_number_83 : decode cX11_number 83 = .ok (.iadd, 1) := by decide +kernel
theorem dX11_number_84 : decode cX11_number 84 = .ok (.bipush 48, 2) := by decide +kernel
theorem dX11_number_86 : decode cX11_number 86 = .ok (.isub, 1) := by decide +kernel
theorem dX11_number_87 : decode cX11_number 87 = .ok (.istore_n 3, 1) := by decide +kernel
theorem dX11_number_88 : decode cX11_number 88 = .ok (.iinc 4 1, 3) := by decide +kernel
theorem dX11_number_91 : decode cX11_number 91 = .ok (.goto (-39), 3) := by decide +kernel
theorem dX11_number_94 : decode cX11_number 94 = .ok (.aload_n 0, 1) := by decide +kernel
theorem dX11_number_95 : decode cX11_number 95 = .ok (.aload_n 0, 1) := by decide +kernel
theorem dX11_number_96 : decode cX11_number 96 = .ok (.getfield 142, 3) := by decide +kernel
theorem dX11_number_99 : decode cX11_number 99 = .ok (.ifCond .ne 12, 3) := by decide +kernel
theorem dX11_number_102 : decode cX11_number 102 = .ok (.iload_n 3, 1) := by decide +kernel
theorem dX11_number_103 : decode cX11_number 103 = .ok (.iload_n 1, 1) := by decide +kernel
theorem dX11_number_104 : decode cX11_number 104 = .ok (.iload_n 2, 1) := by decide +kernel
theorem dX11_number_105 : decode cX11_number 105 = .ok (.invokestatic 83, 3) := by decide +kernel
theorem dX11_number_108 : decode cX11_number 108 = .ok (.ifCond .ne 7, 3) := by decide +kernel
theorem dX11_number_111 : decode cX11_number 111 = .ok (.iconst 1, 1) := by decide +kernel
theorem dX11_number_112 : decode cX11_number 112 = .ok (.goto 4, 3) := by decide +kernel
theorem dX11_number_115 : decode cX11_number 115 = .ok (.iconst 0, 1) := by decide +kernel
theorem dX11_number_116 : decode cX11_number 116 = .ok (.putfield 142, 3) := by decide +kernel
theorem dX11_number_119 : decode cX11_number 119 = .ok (.aload_n 0, 1) := by decide +kernel
theorem dX11_number_120 : decode cX11_number 120 = .ok (.getfield 142, 3) := by decide +kernel
theorem dX11_number_123 : decode cX11_number 123 = .ok (.ifCond .ne 7, 3) := by decide +kernel
theorem dX11_number_126 : decode cX11_number 126 = .ok (.aload_n 0, 1) := by decide +kernel
theorem dX11_number_127 : decode cX11_number 127 = .ok (.invokevirtual 158, 3) := by decide +kernel
theorem dX11_number_130 : decode cX11_number 130 = .ok (.iload_n 3, 1) := by decide +kernel
theorem dX11_number_131 : decode cX11_number 131 = .ok (.ireturn, 1) := by decide +kernel
theorem dX11_other_0 : decode cX11_other 0 = .ok (.aload_n 0, 1) := by decide +kernel
theorem dX11_other_1 : decode cX11_other 1 = .ok (.getfield 136, 3) := by decide +kernel
theorem dX11_other_4 : decode cX11_other 4 = .ok (.istore_n 3, 1) := by decide +kernel
theorem dX11_other_5 : decode cX11_other 5 = .ok (.aload_n 0, 1) := by decide +kernel
theorem dX11_other_6 : decode cX11_other 6 = .ok (.getfield 132, 3) := by decide +kernel
theorem dX11_other_9 : decode cX11_other 9 = .ok (.istore 4, 2) := by decide +kernel
theorem dX11_other_11 : decode cX11_other 11 = .ok (.aload_n 0, 1) := by decide +kernel
theorem dX11_other_12 : decode cX11_other 12 = .ok (.iconst 0, 1) := by decide +kernel
theorem dX11_other_13 : decode cX11_other 13 = .ok (.aload_n 0, 1) := by decide +kernel
theorem dX11_other_14 : decode cX11_other 14 = .ok (.getfield 9, 3) := by decide +kernel
theorem dX11_other_17 : decode cX11_other 17 = .ok (.iconst 0, 1) := by decide +kernel
theorem dX11_other_18 : decode cX11_other 18 = .ok (.iaload, 1) := by decide +kernel
theorem dX11_other_19 : decode cX11_other 19 = .ok (.iconst 1, 1) := by decide +kernel
theorem dX11_other_20 : decode cX11_other 20 = .ok (.isub, 1) := by decide +kernel
theorem dX11_other_21 : decode cX11_other 21 = .ok (.invokevirtual 161, 3) := by decide +kernel
theorem dX11_other_24 : decode cX11_other 24 = .ok (.istore 5, 2) := by decide +kernel
theorem dX11_other_26 : decode cX11_other 26 = .ok (.aload_n 0, 1) := by decide +kernel
theorem dX11_other_27 : decode cX11_other 27 = .ok (.getfield 142, 3) := by decide +kernel
theorem dX11_other_30 : decode cX11_other 30 = .ok (.ifCond .ne 39, 3) := by decide +kernel
theorem dX11_other_33 : decode cX11_other 33 = .ok (.iload 5, 2) := by decide +kernel
theorem dX11_other_35 : decode cX11_other 35 = .ok (.iload_n 1, 1) := by decide +kernel
theorem dX11_other_36 : decode cX11_other 36 = .ok (.if_icmp .eq 17, 3) := by decide +kernel
theorem dX11_other_39 : decode cX11_other 39 = .ok (.iload_n 2, 1) := by decide +kernel
theorem dX11_other_40 : decode cX11_other 40 = .ok (.ifCond .eq 29, 3) := by decide +kernel
theorem dX11_other_43 : decode cX11_other 43 = .ok (.aload_n 0, 1) := by decide +kernel
theorem dX11_other_44 : decode cX11_other 44 = .ok (.iload_n 1, 1) := by decide +kernel
theorem dX11_other_45 : decode cX11_other 45 = .ok (.iload 5, 2) := by decide +kernel
theorem dX11_other_47 : decode cX11_other 47 = .ok (.invokevirtual 108, 3) := by decide +kernel
theorem dX11_other_50 : decode cX11_other 50 = .ok (.ifCond .ne 19, 3) := by decide +kernel
theorem dX11_other_53 : decode cX11_other 53 = .ok (.aload_n 0, 1) := by decide +kernel
theorem dX11_other_54 : decode cX11_other 54 = .ok (.iconst 1, 1) := by decide +kernel
theorem dX11_other_55 : decode cX11_other 55 = .ok (.putfield 142, 3) := by decide +kernel
theorem dX11_other_58 : decode cX11_other 58 = .ok (.aload_n 0, 1) := by decide +kernel
theorem dX11_other_59 : decode cX11_other 59 = .ok (.iload_n 3, 1) := by decide +kernel
theorem dX11_other_60 : decode cX11_other 60 = .ok (.putfield 136, 3) := by decide +kernel
theorem dX11_other_63 : decode cX11_other 63 = .ok (.aload_n 0, 1) := by decide +kernel
theorem dX11_other_64 : decode cX11_other 64 = .ok (.iload 4, 2) := by decide +kernel
theorem dX11_other_66 : decode cX11_other 66 = .ok (.putfield 132, 3) := by decide +kernel
theorem dX11_other_69 : decode cX11_other 69 = .ok (.iload 5, 2) := by decide +kernel
theorem dX11_other_71 : decode cX11_other 71 = .ok (.ireturn, 1) := by decide +kernel
theorem dX11_item_0 : decode cX11_item 0 = .ok (.aload_n 0, 1) := by decide +kernel
theorem dX11_item_1 : decode cX11_item 1 = .ok (.ldc 164, 2) := by decide +kernel
theorem dX11_item_3 : decode cX11_item 3 = .ok (.invokevirtual 154, 3) := by decide +kernel
theorem dX11_item_6 : decode cX11_item 6 = .ok (.ifCond .eq 112, 3) := by decide +kernel
theorem dX11_item_9 : decode cX11_item 9 = .ok (.aload_n 0, 1) := by decide +kernel
theorem dX11_item_10 : decode cX11_item 10 = .ok (.aload_n 0, 1) := by decide +kernel
theorem dX11_item_11 : decode cX11_item 11 = .ok (.getfield 9, 3) := by decide +kernel
theorem dX11_item_14 : decode cX11_item 14 = .ok (.iconst 0, 1) := by decide +kernel
theorem dX11_item_15 : decode cX11_item 15 = .ok (.iaload, 1) := by decide +kernel
theorem dX11_item_16 : decode cX11_item 16 = .ok (.bipush 12, 2) := by decide +kernel
theorem dX11_item_18 : decode cX11_item 18 = .ok (.if_icmp .ne 7, 3) := by decide +kernel
theorem dX11_item_21 : decode cX11_item 21 = .ok (.iconst 1, 1) := by decide +kernel
theorem dX11_item_22 : decode cX11_item 22 = .ok (.goto 4, 3) := by decide +kernel
theorem dX11_item_25 : decode cX11_item 25 = .ok (.iconst 0, 1) := by decide +kernel
theorem dX11_item_26 : decode cX11_item 26 = .ok (.putfield 142, 3) := by decide +kernel
theorem dX11_item_29 : decode cX11_item 29 = .ok (.aload_n 0, 1) := by decide +kernel
theorem dX11_item_30 : decode cX11_item 30 = .ok (.ldc 164, 2) := by decide +kernel
theorem dX11_item_32 : decode cX11_item 32 = .ok (.invokevirtual 166, 3) := by decide +kernel
theorem dX11_item_35 : decode cX11_item 35 = .ok (.istore_n 1, 1) := by decide +kernel
theorem dX11_item_36 : decode cX11_item 36 = .ok (.iconst 0, 1) := by decide +kernel
theorem dX11_item_37 : decode cX11_item 37 = .ok (.istore_n 2, 1) := by decide +kernel
theorem dX11_item_38 : decode cX11_item 38 = .ok (.iload_n 2, 1) := by decide +kernel
theorem dX11_item_39 : decode cX11_item 39 = .ok (.iconst 5, 1) := by decide +kernel
theorem dX11_item_40 : decode cX11_item 40 = .ok (.if_icmp .gt 22, 3) := by decide +kernel
theorem dX11_item_43 : decode cX11_item 43 = .ok (.aload_n 0, 1) := by decide +kernel
theorem dX11_item_44 : decode cX11_item 44 = .ok (.aload_n 0, 1) := by decide +kernel
theorem dX11_item_45 : decode cX11_item 45 = .ok (.getfield 36, 3) := by decide +kernel
theorem dX11_item_48 : decode cX11_item 48 = .ok (.iload_n 2, 1) := by decide +kernel
theorem dX11_item_49 : decode cX11_item 49 = .ok (.aaload, 1) := by decide +kernel
theorem dX11_item_50 : decode cX11_item 50 = .ok (.invokevirtual 166, 3) := by decide +kernel
theorem dX11_item_53 : decode cX11_item 53 = .ok (.ifCond .ne 9, 3) := by decide +kernel
theorem dX11_item_56 : decode cX11_item 56 = .ok (.iinc 2 1, 3) := by decide +kernel
theorem dX11_item_59 : decode cX11_item 59 = .ok (.goto (-21), 3) := by decide +kernel
theorem dX11_item_62 : decode cX11_item 62 = .ok (.aload_n 0, 1) := by decide +kernel
theorem dX11_item_63 : decode cX11_item 63 = .ok (.aload_n 0, 1) := by decide +kernel
theorem dX11_item_64 : decode cX11_item 64 = .ok (.getfield 142, 3) := by decide +kernel
theorem dX11_item_67 : decode cX11_item 67 = .ok (.ifCond .ne 8, 3) := by decide +kernel
theorem dX11_item_70 : decode cX11_item 70 = .ok (.iload_n 2, 1) := by decide +kernel
theorem dX11_item_71 : decode cX11_item 71 = .ok (.iconst 5, 1) := by decide +kernel
theorem dX11_item_72 : decode cX11_item 72 = .ok (.if_icmp .le 7, 3) := by decide +kernel
theorem dX11_item_75 : decode cX11_item 75 = .ok (.iconst 1, 1) := by decide +kernel
theorem dX11_item_76 : decode cX11_item 76 = .ok (.goto 4, 3) := by decide +kernel
theorem dX11_item_79 : decode cX11_item 79 = .ok (.iconst 0, 1) := by decide +kernel
theorem dX11_item_80 : decode cX11_item 80 = .ok (.putfield 142, 3) := by decide +kernel
theorem dX11_item_83 : decode cX11_item 83 = .ok (.aload_n 0, 1) := by decide +kernel
theorem dX11_item_84 : decode cX11_item 84 = .ok (.iconst 1, 1) := by decide +kernel
theorem dX11_item_85 : decode cX11_item 85 = .ok (.bipush 99, 2) := by decide +kernel
theorem dX11_item_87 : decode cX11_item 87 = .ok (.invokevirtual 161, 3) := by decide +kernel
theorem dX11_item_90 : decode cX11_item 90 = .ok (.istore_n 3, 1) := by decide +kernel
theorem dX11_item_91 : decode cX11_item 91 = .ok (.aload_n 0, 1) := by decide +kernel
theorem dX11_item_92 : decode cX11_item 92 = .ok (.iconst 1, 1) := by decide +kernel
theorem dX11_item_93 : decode cX11_item 93 = .ok (.bipush 9, 2) := by decide +kernel
theorem dX11_item_95 : decode cX11_item 95 = .ok (.invokevirtual 161, 3) := by decide +kernel
theorem dX11_item_98 : decode cX11_item 98 = .ok (.istore 4, 2) := by decide +kernel
theorem dX11_item_100 : decode cX11_item 100 = .ok (.aload_n 0, 1) := by decide +kernel
theorem dX11_item_101 : decode cX11_item 101 = .ok (.getfield 142, 3) := by decide +kernel
theorem dX11_item_104 : decode cX11_item 104 = .ok (.ifCond .ne 11, 3) := by decide +kernel
theorem dX11_item_107 : decode cX11_item 107 = .ok (.aload_n 0, 1) := by decide +kernel
theorem dX11_item_108 : decode cX11_item 108 = .ok (.iload_n 2, 1) := by decide +kernel
theorem dX11_item_109 : decode cX11_item 109 = .ok (.iload_n 3, 1) := by decide +kernel
theorem dX11_item_110 : decode cX11_item 110 = .ok (.iload 4, 2) := by decide +kernel
theorem dX11_item_112 : decode cX11_item 112 = .ok (.invokevirtual 93, 3) := by decide +kernel
theorem dX11_item_115 : decode cX11_item 115 = .ok (.goto 219, 3) := by decide +kernel
theorem dX11_item_118 : decode cX11_item 118 = .ok (.aload_n 0, 1) := by decide +kernel
theorem dX11_item_119 : decode cX11_item 119 = .ok (.ldc 169, 2) := by decide +kernel
theorem dX11_item_121 : decode cX11_item 121 = .ok (.invokevirtual 166, 3) := by decide +kernel
theorem dX11_item_124 : decode cX11_item 124 = .ok (.ifCond .eq 57, 3) := by decide +kernel
theorem dX11_item_127 : decode cX11_item 127 = .ok (.aload_n 0, 1) := by decide +kernel
theorem dX11_item_128 : decode cX11_item 128 = .ok (.iconst 0, 1) := by decide +kernel
theorem dX11_item_129 : decode cX11_item 129 = .ok (.aload_n 0, 1) := by decide +kernel
theorem dX11_item_130 : decode cX11_item 130 = .ok (.getfield 9, 3) := by decide +kernel
theorem dX11_item_133 : decode cX11_item 133 = .ok (.iconst 0, 1) := by decide +kernel
theorem dX11_item_134 : decode cX11_item 134 = .ok (.iaload, 1) := by decide +kernel
theorem dX11_item_135 : decode cX11_item 135 = .ok (.iconst 1, 1) := by decide +kernel
theorem dX11_item_136 : decode cX11_item 136 = .ok (.isub, 1) := by decide +kernel
theorem dX11_item_137 : decode cX11_item 137 = .ok (.invokevirtual 161, 3) := by decide +kernel
theorem dX11_item_140 : decode cX11_item 140 = .ok (.istore_n 1, 1) := by decide +kernel
theorem dX11_item_141 : decode cX11_item 141 = .ok (.aload_n 0, 1) := by decide +kernel
theorem dX11_item_142 : decode cX11_item 142 = .ok (.iload_n 1, 1) := by decide +kernel
theorem dX11_item_143 : decode cX11_item 143 = .ok (.iconst 0, 1) := by decide +kernel
theorem dX11_item_144 : decode cX11_item 144 = .ok (.invokevirtual 171, 3) := by decide +kernel
theorem dX11_item_147 : decode cX11_item 147 = .ok (.istore_n 2, 1) := by decide +kernel
theorem dX11_item_148 : decode cX11_item 148 = .ok (.aload_n 0, 1) := by decide +kernel
theorem dX11_item_149 : decode cX11_item 149 = .ok (.iconst 1, 1) := by decide +kernel
theorem dX11_item_150 : decode cX11_item 150 = .ok (.bipush 99, 2) := by decide +kernel
theorem dX11_item_152 : decode cX11_item 152 = .ok (.invokevirtual 161, 3) := by decide +kernel
theorem dX11_item_155 : decode cX11_item 155 = .ok (.istore_n 3, 1) := by decide +kernel
theorem dX11_item_156 : decode cX11_item 156 = .ok (.aload_n 0, 1) := by decide +kernel
theorem dX11_item_157 : decode cX11_item 157 = .ok (.getfield 142, 3) := by decide +kernel
theorem dX11_item_160 : decode cX11_item 160 = .ok (.ifCond .ne 18, 3) := by decide +kernel
theorem dX11_item_163 : decode cX11_item 163 = .ok (.aload_n 0, 1) := by decide +kernel
theorem dX11_item_164 : decode cX11_item 164 = .ok (.getfield 9, 3) := by decide +kernel
theorem dX11_item_167 : decode cX11_item 167 = .ok (.bipush 41, 2) := by decide +kernel
theorem dX11_item_169 : decode cX11_item 169 = .ok (.bipush 12, 2) := by decide +kernel
theorem dX11_item_171 : decode cX11_item 171 = .ok (.iload_n 1, 1) := by decide +kernel
theorem dX11_item_172 : decode cX11_item 172 = .ok (.imul, 1) := by decide +kernel
theorem dX11_item_173 : decode cX11_item 173 = .ok (.iadd, 1) := by decide +kernel
theorem dX11_item_174 : decode cX11_item 174 = .ok (.iload_n 2, 1) := by decide +kernel
theorem dX11_item_175 : decode cX11_item 175 = .ok (.iadd, 1) := by decide +kernel
theorem dX11_item_176 : decode cX11_item 176 = .ok (.iload_n 3, 1) := by decide +kernel
theorem dX11_item_177 : decode cX11_item 177 = .ok (.iastore, 1) := by decide +kernel
theorem dX11_item_178 : decode cX11_item 178 = .ok (.goto 156, 3) := by decide +kernel
theorem dX11_item_181 : decode cX11_item 181 = .ok (.aload_n 0, 1) := by decide +kernel
theorem dX11_item_182 : decode cX11_item 182 = .ok (.ldc 175, 2) := by decide +kernel
theorem dX11_item_184 : decode cX11_item 184 = .ok (.invokevirtual 154, 3) := by decide +kernel
theorem dX11_item_187 : decode cX11_item 187 = .ok (.ifCond .eq 107, 3) := by decide +kernel
theorem dX11_item_190 : decode cX11_item 190 = .ok (.aload_n 0, 1) := by decide +kernel
theorem dX11_item_191 : decode cX11_item 191 = .ok (.aload_n 0, 1) := by decide +kernel
theorem dX11_item_192 : decode cX11_item 192 = .ok (.getfield 9, 3) := by decide +kernel
theorem dX11_item_195 : decode cX11_item 195 = .ok (.iconst 1, 1) := by decide +kernel
theorem dX11_item_196 : decode cX11_item 196 = .ok (.iaload, 1) := by decide +kernel
theorem dX11_item_197 : decode cX11_item 197 = .ok (.bipush 60, 2) := by decide +kernel
theorem dX11_item_199 : decode cX11_item 199 = .ok (.if_icmp .ne 7, 3) := by decide +kernel
theorem dX11_item_202 : decode cX11_item 202 = .ok (.iconst 1, 1) := by decide +kernel
theorem dX11_item_203 : decode cX11_item 203 = .ok (.goto 4, 3) := by decide +kernel
theorem dX11_item_206 : decode cX11_item 206 = .ok (.iconst 0, 1) := by decide +kernel
theorem dX11_item_207 : decode cX11_item 207 = .ok (.putfield 142, 3) := by decide +kernel
theorem dX11_item_210 : decode cX11_item 210 = .ok (.aload_n 0, 1) := by decide +kernel
theorem dX11_item_211 : decode cX11_item 211 = .ok (.ldc 175, 2) := by decide +kernel
theorem dX11_item_213 : decode cX11_item 213 = .ok (.invokevirtual 166, 3) := by decide +kernel
theorem dX11_item_216 : decode cX11_item 216 = .ok (.istore_n 1, 1) := by decide +kernel
theorem dX11_item_217 : decode cX11_item 217 = .ok (.aload_n 0, 1) := by decide +kernel
theorem dX11_item_218 : decode cX11_item 218 = .ok (.iconst 0, 1) := by decide +kernel
theorem dX11_item_219 : decode cX11_item 219 = .ok (.aload_n 0, 1) := by decide +kernel
theorem dX11_item_220 : decode cX11_item 220 = .ok (.getfield 9, 3) := by decide +kernel
theorem dX11_item_223 : decode cX11_item 223 = .ok (.iconst 0, 1) := by decide +kernel
theorem dX11_item_224 : decode cX11_item 224 = .ok (.iaload, 1) := by decide +kernel
theorem dX11_item_225 : decode cX11_item 225 = .ok (.iconst 1, 1) := by decide +kernel
theorem dX11_item_226 : decode cX11_item 226 = .ok (.isub, 1) := by decide +kernel
theorem dX11_item_227 : decode cX11_item 227 = .ok (.invokevirtual 161, 3) := by decide +kernel
theorem dX11_item_230 : decode cX11_item 230 = .ok (.istore_n 2, 1) := by decide +kernel
theorem dX11_item_231 : decode cX11_item 231 = .ok (.aload_n 0, 1) := by decide +kernel
theorem dX11_item_232 : decode cX11_item 232 = .ok (.iload_n 2, 1) := by decide +kernel
theorem dX11_item_233 : decode cX11_item 233 = .ok (.iconst 1, 1) := by decide +kernel
theorem dX11_item_234 : decode cX11_item 234 = .ok (.invokevirtual 171, 3) := by decide +kernel
theorem dX11_item_237 : decode cX11_item 237 = .ok (.istore_n 3, 1) := by decide +kernel
theorem dX11_item_238 : decode cX11_item 238 = .ok (.aload_n 0, 1) := by decide +kernel
theorem dX11_item_239 : decode cX11_item 239 = .ok (.ldc 177, 2) := by decide +kernel
theorem dX11_item_241 : decode cX11_item 241 = .ok (.invokevirtual 166, 3) := by decide +kernel
theorem dX11_item_244 : decode cX11_item 244 = .ok (.istore 4, 2) := by decide +kernel
theorem dX11_item_246 : decode cX11_item 246 = .ok (.aload_n 0, 1) := by decide +kernel
theorem dX11_item_247 : decode cX11_item 247 = .ok (.aload_n 0, 1) := by decide +kernel
theorem dX11_item_248 : decode cX11_item 248 = .ok (.getfield 142, 3) := by decide +kernel
theorem dX11_item_251 : decode cX11_item 251 = .ok (.ifCond .ne 17, 3) := by decide +kernel
theorem dX11_item_254 : decode cX11_item 254 = .ok (.iload 4, 2) := by decide +kernel
theorem dX11_item_256 : decode cX11_item 256 = .ok (.ifCond .ne 16, 3) := by decide +kernel
theorem dX11_item_259 : decode cX11_item 259 = .ok (.aload_n 0, 1) := by decide +kernel
theorem dX11_item_260 : decode cX11_item 260 = .ok (.ldc 179, 2) := by decide +kernel
theorem dX11_item_262 : decode cX11_item 262 = .ok (.invokevirtual 166, 3) := by decide +kernel
theorem dX11_item_265 : decode cX11_item 265 = .ok (.ifCond .ne 7, 3) := by decide +kernel
theorem dX11_item_268 : decode cX11_item 268 = .ok (.iconst 1, 1) := by decide +kernel
theorem dX11_item_269 : decode cX11_item 269 = .ok (.goto 4, 3) := by decide +kernel
theorem dX11_item_272 : decode cX11_item 272 = .ok (.iconst 0, 1) := by decide +kernel
theorem dX11_item_273 : decode cX11_item 273 = .ok (.putfield 142, 3) := by decide +kernel
theorem dX11_item_276 : decode cX11_item 276 = .ok (.aload_n 0, 1) := by decide +kernel
theorem dX11_item_277 : decode cX11_item 277 = .ok (.getfield 142, 3) := by decide +kernel
theorem dX11_item_280 : decode cX11_item 280 = .ok (.ifCond .ne 11, 3) := by decide +kernel
theorem dX11_item_283 : decode cX11_item 283 = .ok (.aload_n 0, 1) := by decide +kernel
theorem dX11_item_284 : decode cX11_item 284 = .ok (.iload_n 2, 1) := by decide +kernel
theorem dX11_item_285 : decode cX11_item 285 = .ok (.iload_n 3, 1) := by decide +kernel
theorem dX11_item_286 : decode cX11_item 286 = .ok (.iload 4, 2) := by decide +kernel
theorem dX11_item_288 : decode cX11_item 288 = .ok (.invokevirtual 126, 3) := by decide +kernel
theorem dX11_item_291 : decode cX11_item 291 = .ok (.goto 43, 3) := by decide +kernel
theorem dX11_item_294 : decode cX11_item 294 = .ok (.aload_n 0, 1) := by decide +kernel
theorem dX11_item_295 : decode cX11_item 295 = .ok (.aload_n 0, 1) := by decide +kernel
theorem dX11_item_296 : decode cX11_item 296 = .ok (.ldc 181, 2) := by decide +kernel
theorem dX11_item_298 : decode cX11_item 298 = .ok (.invokevirtual 166, 3) := by decide +kernel
theorem dX11_item_301 : decode cX11_item 301 = .ok (.ifCond .ne 7, 3) := by decide +kernel
theorem dX11_item_304 : decode cX11_item 304 = .ok (.iconst 1, 1) := by decide +kernel
theorem dX11_item_305 : decode cX11_item 305 = .ok (.goto 4, 3) := by decide +kernel
theorem dX11_item_308 : decode cX11_item 308 = .ok (.iconst 0, 1) := by decide +kernel
theorem dX11_item_309 : decode cX11_item 309 = .ok (.putfield 142, 3) := by decide +kernel
theorem dX11_item_312 : decode cX11_item 312 = .ok (.aload_n 0, 1) := by decide +kernel
theorem dX11_item_313 : decode cX11_item 313 = .ok (.iconst 0, 1) := by decide +kernel
theorem dX11_item_314 : decode cX11_item 314 = .ok (.bipush 12, 2) := by decide +kernel
theorem dX11_item_316 : decode cX11_item 316 = .ok (.invokevirtual 161, 3) := by decide +kernel
theorem dX11_item_319 : decode cX11_item 319 = .ok (.istore_n 1, 1) := by decide +kernel
theorem dX11_item_320 : decode cX11_item 320 = .ok (.aload_n 0, 1) := by decide +kernel
theorem dX11_item_321 : decode cX11_item 321 = .ok (.getfield 142, 3) := by decide +kernel
theorem dX11_item_324 : decode cX11_item 324 = .ok (.ifCond .ne 10, 3) := by decide +kernel
theorem dX11_item_327 : decode cX11_item 327 = .ok (.aload_n 0, 1) := by decide +kernel
theorem dX11_item_328 : decode cX11_item 328 = .ok (.getfield 9, 3) := by decide +kernel
theorem dX11_item_331 : decode cX11_item 331 = .ok (.iconst 2, 1) := by decide +kernel
theorem dX11_item_332 : decode cX11_item 332 = .ok (.iload_n 1, 1) := by decide +kernel
theorem dX11_item_333 : decode cX11_item 333 = .ok (.iastore, 1) := by decide +kernel
theorem dX11_item_334 : decode cX11_item 334 = .ok (.return_, 1) := by decide +kernel
theorem dX11_text_0 : decode cX11_text 0 = .ok (.aload_n 0, 1) := by decide +kernel
theorem dX11_text_1 : decode cX11_text 1 = .ok (.getfield 9, 3) := by decide +kernel
theorem dX11_text_4 : decode cX11_text 4 = .ok (.aload_n 0, 1) := by decide +kernel
theorem dX11_text_5 : decode cX11_text 5 = .ok (.getfield 16, 3) := by decide +kernel
theorem dX11_text_8 : decode cX11_text 8 = .ok (.invokestatic 183, 3) := by decide +kernel
theorem dX11_text_11 : decode cX11_text 11 = .ok (.aload_n 0, 1) := by decide +kernel
theorem dX11_text_12 : decode cX11_text 12 = .ok (.iconst 0, 1) := by decide +kernel
theorem dX11_text_13 : decode cX11_text 13 = .ok (.putfield 132, 3) := by decide +kernel
theorem dX11_text_16 : decode cX11_text 16 = .ok (.aload_n 0, 1) := by decide +kernel
theorem dX11_text_17 : decode cX11_text 17 = .ok (.iconst 0, 1) := by decide +kernel
theorem dX11_text_18 : decode cX11_text 18 = .ok (.putfield 142, 3) := by decide +kernel
theorem dX11_text_21 : decode cX11_text 21 = .ok (.aload_n 0, 1) := by decide +kernel
theorem dX11_text_22 : decode cX11_text 22 = .ok (.invokevirtual 158, 3) := by decide +kernel
theorem dX11_text_25 : decode cX11_text 25 = .ok (.aload_n 0, 1) := by decide +kernel
theorem dX11_text_26 : decode cX11_text 26 = .ok (.invokevirtual 187, 3) := by decide +kernel
theorem dX11_text_29 : decode cX11_text 29 = .ok (.iconst 1, 1) := by decide +kernel
theorem dX11_text_30 : decode cX11_text 30 = .ok (.istore_n 1, 1) := by decide +kernel
theorem dX11_text_31 : decode cX11_text 31 = .ok (.aload_n 0, 1) := by decide +kernel
theorem dX11_text_32 : decode cX11_text 32 = .ok (.ldc 190, 2) := by decide +kernel
theorem dX11_text_34 : decode cX11_text 34 = .ok (.invokevirtual 166, 3) := by decide +kernel
theorem dX11_text_37 : decode cX11_text 37 = .ok (.ifCond .eq 13, 3) := by decide +kernel
theorem dX11_text_40 : decode cX11_text 40 = .ok (.aload_n 0, 1) := by decide +kernel
theorem dX11_text_41 : decode cX11_text 41 = .ok (.invokevirtual 187, 3) := by decide +kernel
theorem dX11_text_44 : decode cX11_text 44 = .ok (.iinc 1 1, 3) := by decide +kernel
theorem dX11_text_47 : decode cX11_text 47 = .ok (.goto (-16), 3) := by decide +kernel
theorem dX11_text_50 : decode cX11_text 50 = .ok (.aload_n 0, 1) := by decide +kernel
theorem dX11_text_51 : decode cX11_text 51 = .ok (.aload_n 0, 1) := by decide +kernel
theorem dX11_text_52 : decode cX11_text 52 = .ok (.getfield 142, 3) := by decide +kernel
theorem dX11_text_55 : decode cX11_text 55 = .ok (.ifCond .ne 16, 3) := by decide +kernel
theorem dX11_text_58 : decode cX11_text 58 = .ok (.aload_n 0, 1) := by decide +kernel
theorem dX11_text_59 : decode cX11_text 59 = .ok (.getfield 136, 3) := by decide +kernel
theorem dX11_text_62 : decode cX11_text 62 = .ok (.aload_n 0, 1) := by decide +kernel
theorem dX11_text_63 : decode cX11_text 63 = .ok (.getfield 9, 3) := by decide +kernel
theorem dX11_text_66 : decode cX11_text 66 = .ok (.iconst 3, 1) := by decide +kernel
theorem dX11_text_67 : decode cX11_text 67 = .ok (.iaload, 1) := by decide +kernel
theorem dX11_text_68 : decode cX11_text 68 = .ok (.if_icmp .ge 7, 3) := by decide +kernel
theorem dX11_text_71 : decode cX11_text 71 = .ok (.iconst 1, 1) := by decide +kernel
theorem dX11_text_72 : decode cX11_text 72 = .ok (.goto 4, 3) := by decide +kernel
theorem dX11_text_75 : decode cX11_text 75 = .ok (.iconst 0, 1) := by decide +kernel
theorem dX11_text_76 : decode cX11_text 76 = .ok (.putfield 142, 3) := by decide +kernel
theorem dX11_text_79 : decode cX11_text 79 = .ok (.aload_n 0, 1) := by decide +kernel
theorem dX11_text_80 : decode cX11_text 80 = .ok (.getfield 142, 3) := by decide +kernel
theorem dX11_text_83 : decode cX11_text 83 = .ok (.ifCond .eq 14, 3) := by decide +kernel
theorem dX11_text_86 : decode cX11_text 86 = .ok (.aload_n 0, 1) := by decide +kernel
theorem dX11_text_87 : decode cX11_text 87 = .ok (.getfield 16, 3) := by decide +kernel
theorem dX11_text_90 : decode cX11_text 90 = .ok (.aload_n 0, 1) := by decide +kernel
theorem dX11_text_91 : decode cX11_text 91 = .ok (.getfield 9, 3) := by decide +kernel
theorem dX11_text_94 : decode cX11_text 94 = .ok (.invokestatic 183, 3) := by decide +kernel
theorem dX11_text_97 : decode cX11_text 97 = .ok (.aload_n 0, 1) := by decide +kernel
theorem dX11_text_98 : decode cX11_text 98 = .ok (.getfield 9, 3) := by decide +kernel
theorem dX11_text_101 : decode cX11_text 101 = .ok (.iconst 3, 1) := by decide +kernel
theorem dX11_text_102 : decode cX11_text 102 = .ok (.iconst 0, 1) := by decide +kernel
theorem dX11_text_103 : decode cX11_text 103 = .ok (.iastore, 1) := by decide +kernel
theorem dX11_text_104 : decode cX11_text 104 = .ok (.aload_n 0, 1) := by decide +kernel
theorem dX11_text_105 : decode cX11_text 105 = .ok (.getfield 142, 3) := by decide +kernel
theorem dX11_text_108 : decode cX11_text 108 = .ok (.ifCond .eq 13, 3) := by decide +kernel
theorem dX11_text_111 : decode cX11_text 111 = .ok (.bipush (-10), 2) := by decide +kernel
theorem dX11_text_113 : decode cX11_text 113 = .ok (.aload_n 0, 1) := by decide +kernel
theorem dX11_text_114 : decode cX11_text 114 = .ok (.getfield 136, 3) := by decide +kernel
theorem dX11_text_117 : decode cX11_text 117 = .ok (.isub, 1) := by decide +kernel
theorem dX11_text_118 : decode cX11_text 118 = .ok (.goto 4, 3) := by decide +kernel
theorem dX11_text_121 : decode cX11_text 121 = .ok (.iload_n 1, 1) := by decide +kernel
theorem dX11_text_122 : decode cX11_text 122 = .ok (.ireturn, 1) := by decide +kernel
theorem dX11_all_0 : decode cX11_all 0 = .ok (.iconst 1, 1) := by decide +kernel
theorem dX11_all_1 : decode cX11_all 1 = .ok (.aload_n 0, 1) := by decide +kernel
theorem dX11_all_2 : decode cX11_all 2 = .ok (.getfield 9, 3) := by decide +kernel
theorem dX11_all_5 : decode cX11_all 5 = .ok (.iconst 0, 1) := by decide +kernel
theorem dX11_all_6 : decode cX11_all 6 = .ok (.iaload, 1) := by decide +kernel
theorem dX11_all_7 : decode cX11_all 7 = .ok (.ishl, 1) := by decide +kernel
theorem dX11_all_8 : decode cX11_all 8 = .ok (.iconst 1, 1) := by decide +kernel
theorem dX11_all_9 : decode cX11_all 9 = .ok (.isub, 1) := by decide +kernel
theorem dX11_all_10 : decode cX11_all 10 = .ok (.ireturn, 1) := by decide +kernel
theorem dX11_isSet_0 : decode cX11_isSet 0 = .ok (.iload_n 1, 1) := by decide +kernel
theorem dX11_isSet_1 : decode cX11_isSet 1 = .ok (.iconst 0, 1) := by decide +kernel
theorem dX11_isSet_2 : decode cX11_isSet 2 = .ok (.aload_n 0, 1) := by decide +kernel
theorem dX11_isSet_3 : decode cX11_isSet 3 = .ok (.invokevirtual 192, 3) := by decide +kernel
theorem dX11_isSet_6 : decode cX11_isSet 6 = .ok (.invokestatic 83, 3) := by decide +kernel
theorem dX11_isSet_9 : decode cX11_isSet 9 = .ok (.ireturn, 1) := by decide +kernel
theorem dX11_isLet_0 : decode cX11_isLet 0 = .ok (.iload_n 1, 1) := by decide +kernel
theorem dX11_isLet_1 : decode cX11_isLet 1 = .ok (.iload_n 3, 1) := by decide +kernel
theorem dX11_isLet_2 : decode cX11_isLet 2 = .ok (.invokestatic 195, 3) := by decide +kernel
theorem dX11_isLet_5 : decode cX11_isLet 5 = .ok (.istore 5, 2) := by decide +kernel
theorem dX11_isLet_7 : decode cX11_isLet 7 = .ok (.aload_n 0, 1) := by decide +kernel
theorem dX11_isLet_8 : decode cX11_isLet 8 = .ok (.iload_n 2, 1) := by decide +kernel
theorem dX11_isLet_9 : decode cX11_isLet 9 = .ok (.iconst 0, 1) := by decide +kernel
theorem dX11_isLet_10 : decode cX11_isLet 10 = .ok (.invokevirtual 105, 3) := by decide +kernel
theorem dX11_isLet_13 : decode cX11_isLet 13 = .ok (.istore 6, 2) := by decide +kernel
theorem dX11_isLet_15 : decode cX11_isLet 15 = .ok (.iload_n 1, 1) := by decide +kernel
theorem dX11_isLet_16 : decode cX11_isLet 16 = .ok (.iload_n 2, 1) := by decide +kernel
theorem dX11_isLet_17 : decode cX11_isLet 17 = .ok (.invokestatic 195, 3) := by decide +kernel
theorem dX11_isLet_20 : decode cX11_isLet 20 = .ok (.ifCond .ne 46, 3) := by decide +kernel
theorem dX11_isLet_23 : decode cX11_isLet 23 = .ok (.iload 6, 2) := by decide +kernel
theorem dX11_isLet_25 : decode cX11_isLet 25 = .ok (.iconst 3, 1) := by decide +kernel
theorem dX11_isLet_26 : decode cX11_isLet 26 = .ok (.if_icmp .eq 9, 3) := by decide +kernel
theorem dX11_isLet_29 : decode cX11_isLet 29 = .ok (.iload 6, 2) := by decide +kernel
theorem dX11_isLet_31 : decode cX11_isLet 31 = .ok (.iconst 5, 1) := by decide +kernel
theorem dX11_isLet_32 : decode cX11_isLet 32 = .ok (.if_icmp .ne 21, 3) := by decide +kernel
theorem dX11_isLet_35 : decode cX11_isLet 35 = .ok (.iload 4, 2) := by decide +kernel
theorem dX11_isLet_37 : decode cX11_isLet 37 = .ok (.ifCond .ne 8, 3) := by decide +kernel
theorem dX11_isLet_40 : decode cX11_isLet 40 = .ok (.iload 5, 2) := by decide +kernel
theorem dX11_isLet_42 : decode cX11_isLet 42 = .ok (.ifCond .eq 7, 3) := by decide +kernel
theorem dX11_isLet_45 : decode cX11_isLet 45 = .ok (.iconst 1, 1) := by decide +kernel
theorem dX11_isLet_46 : decode cX11_isLet 46 = .ok (.goto 19, 3) := by decide +kernel
theorem dX11_isLet_49 : decode cX11_isLet 49 = .ok (.iconst 0, 1) := by decide +kernel
theorem dX11_isLet_50 : decode cX11_isLet 50 = .ok (.goto 15, 3) := by decide +kernel
theorem dX11_isLet_53 : decode cX11_isLet 53 = .ok (.iload 4, 2) := by decide +kernel
theorem dX11_isLet_55 : decode cX11_isLet 55 = .ok (.iload 5, 2) := by decide +kernel
theorem dX11_isLet_57 : decode cX11_isLet 57 = .ok (.if_icmp .eq 7, 3) := by decide +kernel
theorem dX11_isLet_60 : decode cX11_isLet 60 = .ok (.iconst 1, 1) := by decide +kernel
theorem dX11_isLet_61 : decode cX11_isLet 61 = .ok (.goto 4, 3) := by decide +kernel
theorem dX11_isLet_64 : decode cX11_isLet 64 = .ok (.iconst 0, 1) := by decide +kernel
theorem dX11_isLet_65 : decode cX11_isLet 65 = .ok (.ireturn, 1) := by decide +kernel
theorem dX11_isLet_66 : decode cX11_isLet 66 = .ok (.iload 6, 2) := by decide +kernel
theorem dX11_isLet_68 : decode cX11_isLet 68 = .ok (.tableswitch 70 1 5 #[36, 39, 70, 52, 68], 36) := by decide +kernel
theorem dX11_isLet_104 : decode cX11_isLet 104 = .ok (.iload 4, 2) := by decide +kernel
theorem dX11_isLet_106 : decode cX11_isLet 106 = .ok (.ireturn, 1) := by decide +kernel
theorem dX11_isLet_107 : decode cX11_isLet 107 = .ok (.iload 4, 2) := by decide +kernel
theorem dX11_isLet_109 : decode cX11_isLet 109 = .ok (.iload 5, 2) := by decide +kernel
theorem dX11_isLet_111 : decode cX11_isLet 111 = .ok (.if_icmp .ne 7, 3) := by decide +kernel
theorem dX11_isLet_114 : decode cX11_isLet 114 = .ok (.iconst 1, 1) := by decide +kernel
theorem dX11_isLet_115 : decode cX11_isLet 115 = .ok (.goto 4, 3) := by decide +kernel
theorem dX11_isLet_118 : decode cX11_isLet 118 = .ok (.iconst 0, 1) := by decide +kernel
theorem dX11_isLet_119 : decode cX11_isLet 119 = .ok (.ireturn, 1) := by decide +kernel
theorem dX11_isLet_120 : decode cX11_isLet 120 = .ok (.iload 4, 2) := by decide +kernel
theorem dX11_isLet_122 : decode cX11_isLet 122 = .ok (.ifCond .ne 8, 3) := by decide +kernel
theorem dX11_isLet_125 : decode cX11_isLet 125 = .ok (.iload 5, 2) := by decide +kernel
theorem dX11_isLet_127 : decode cX11_isLet 127 = .ok (.ifCond .ne 7, 3) := by decide +kernel
theorem dX11_isLet_130 : decode cX11_isLet 130 = .ok (.iconst 1, 1) := by decide +kernel
theorem dX11_isLet_131 : decode cX11_isLet 131 = .ok (.goto 4, 3) := by decide +kernel
theorem dX11_isLet_134 : decode cX11_isLet 134 = .ok (.iconst 0, 1) := by decide +kernel
theorem dX11_isLet_135 : decode cX11_isLet 135 = .ok (.ireturn, 1) := by decide +kernel
theorem dX11_isLet_136 : decode cX11_isLet 136 = .ok (.iconst 0, 1) := by decide +kernel
theorem dX11_isLet_137 : decode cX11_isLet 137 = .ok (.ireturn, 1) := by decide +kernel
theorem dX11_isLet_138 : decode cX11_isLet 138 = .ok (.iconst 1, 1) := by decide +kernel
theorem dX11_isLet_139 : decode cX11_isLet 139 = .ok (.ireturn, 1) := by decide +kernel
theorem dX11_isLet__0 : decode cX11_isLet_ 0 = .ok (.aload_n 0, 1) := by decide +kernel
theorem dX11_isLet__1 : decode cX11_isLet_ 1 = .ok (.iload_n 1, 1) := by decide +kernel
theorem dX11_isLet__2 : decode cX11_isLet_ 2 = .ok (.aload_n 0, 1) := by decide +kernel
theorem dX11_isLet__3 : decode cX11_isLet_ 3 = .ok (.iload_n 2, 1) := by decide +kernel
theorem dX11_isLet__4 : decode cX11_isLet_ 4 = .ok (.iconst 0, 1) := by decide +kernel
theorem dX11_isLet__5 : decode cX11_isLet_ 5 = .ok (.invokevirtual 97, 3) := by decide +kernel
theorem dX11_isLet__8 : decode cX11_isLet_ 8 = .ok (.aload_n 0, 1) := by decide +kernel
theorem dX11_isLet__9 : decode cX11_isLet_ 9 = .ok (.iload_n 2, 1) := by decide +kernel
theorem dX11_isLet__10 : decode cX11_isLet_ 10 = .ok (.iconst 1, 1) := by decide +kernel
theorem dX11_isLet__11 : decode cX11_isLet_ 11 = .ok (.invokevirtual 97, 3) := by decide +kernel
theorem dX11_isLet__14 : decode cX11_isLet_ 14 = .ok (.aload_n 0, 1) := by decide +kernel
theorem dX11_isLet__15 : decode cX11_isLet_ 15 = .ok (.iload_n 2, 1) := by decide +kernel
theorem dX11_isLet__16 : decode cX11_isLet_ 16 = .ok (.iconst 2, 1) := by decide +kernel
theorem dX11_isLet__17 : decode cX11_isLet_ 17 = .ok (.invokevirtual 97, 3) := by decide +kernel
theorem dX11_isLet__20 : decode cX11_isLet_ 20 = .ok (.iconst 1, 1) := by decide +kernel
theorem dX11_isLet__21 : decode cX11_isLet_ 21 = .ok (.if_icmp .ne 7, 3) := by decide +kernel
theorem dX11_isLet__24 : decode cX11_isLet_ 24 = .ok (.iconst 1, 1) := by decide +kernel
theorem dX11_isLet__25 : decode cX11_isLet_ 25 = .ok (.goto 4, 3) := by decide +kernel
theorem dX11_isLet__28 : decode cX11_isLet_ 28 = .ok (.iconst 0, 1) := by decide +kernel
theorem dX11_isLet__29 : decode cX11_isLet_ 29 = .ok (.invokevirtual 198, 3) := by decide +kernel
theorem dX11_isLet__32 : decode cX11_isLet_ 32 = .ok (.ireturn, 1) := by decide +kernel
theorem dX11_barsOf_0 : decode cX11_barsOf 0 = .ok (.iload_n 1, 1) := by decide +kernel
theorem dX11_barsOf_1 : decode cX11_barsOf 1 = .ok (.invokestatic 202, 3) := by decide +kernel
theorem dX11_barsOf_4 : decode cX11_barsOf 4 = .ok (.aload_n 0, 1) := by decide +kernel
theorem dX11_barsOf_5 : decode cX11_barsOf 5 = .ok (.getfield 9, 3) := by decide +kernel
theorem dX11_barsOf_8 : decode cX11_barsOf 8 = .ok (.iconst 2, 1) := by decide +kernel
theorem dX11_barsOf_9 : decode cX11_barsOf 9 = .ok (.iaload, 1) := by decide +kernel
theorem dX11_barsOf_10 : decode cX11_barsOf 10 = .ok (.if_icmp .le 6, 3) := by decide +kernel
theorem dX11_barsOf_13 : decode cX11_barsOf 13 = .ok (.bipush 100, 2) := by decide +kernel
theorem dX11_barsOf_15 : decode cX11_barsOf 15 = .ok (.ireturn, 1) := by decide +kernel
theorem dX11_barsOf_16 : decode cX11_barsOf 16 = .ok (.iconst 0, 1) := by decide +kernel
theorem dX11_barsOf_17 : decode cX11_barsOf 17 = .ok (.istore_n 2, 1) := by decide +kernel
theorem dX11_barsOf_18 : decode cX11_barsOf 18 = .ok (.iload_n 2, 1) := by decide +kernel
theorem dX11_barsOf_19 : decode cX11_barsOf 19 = .ok (.aload_n 0, 1) := by decide +kernel
theorem dX11_barsOf_20 : decode cX11_barsOf 20 = .ok (.getfield 9, 3) := by decide +kernel
theorem dX11_barsOf_23 : decode cX11_barsOf 23 = .ok (.iconst 1, 1) := by decide +kernel
theorem dX11_barsOf_24 : decode cX11_barsOf 24 = .ok (.iaload, 1) := by decide +kernel
theorem dX11_barsOf_25 : decode cX11_barsOf 25 = .ok (.if_icmp .ge 28, 3) := by decide +kernel
theorem dX11_barsOf_28 : decode cX11_barsOf 28 = .ok (.aload_n 0, 1) := by decide +kernel
theorem dX11_barsOf_29 : decode cX11_barsOf 29 = .ok (.iload_n 2, 1) := by decide +kernel
theorem dX11_barsOf_30 : decode cX11_barsOf 30 = .ok (.invokevirtual 111, 3) := by decide +kernel
theorem dX11_barsOf_33 : decode cX11_barsOf 33 = .ok (.ifCond .eq 14, 3) := by decide +kernel
theorem dX11_barsOf_36 : decode cX11_barsOf 36 = .ok (.aload_n 0, 1) := by decide +kernel
theorem dX11_barsOf_37 : decode cX11_barsOf 37 = .ok (.iload_n 1, 1) := by decide +kernel
theorem dX11_barsOf_38 : decode cX11_barsOf 38 = .ok (.iload_n 2, 1) := by decide +kernel
theorem dX11_barsOf_39 : decode cX11_barsOf 39 = .ok (.invokevirtual 205, 3) := by decide +kernel
theorem dX11_barsOf_42 : decode cX11_barsOf 42 = .ok (.ifCond .ne 5, 3) := by decide +kernel
theorem dX11_barsOf_45 : decode cX11_barsOf 45 = .ok (.iload_n 2, 1) := by decide +kernel
theorem dX11_barsOf_46 : decode cX11_barsOf 46 = .ok (.ireturn, 1) := by decide +kernel
theorem dX11_barsOf_47 : decode cX11_barsOf 47 = .ok (.iinc 2 1, 3) := by decide +kernel
theorem dX11_barsOf_50 : decode cX11_barsOf 50 = .ok (.goto (-32), 3) := by decide +kernel
theorem dX11_barsOf_53 : decode cX11_barsOf 53 = .ok (.iconst (-1), 1) := by decide +kernel
theorem dX11_barsOf_54 : decode cX11_barsOf 54 = .ok (.ireturn, 1) := by decide +kernel
theorem dX11_fits_0 : decode cX11_fits 0 = .ok (.aload_n 0, 1) := by decide +kernel
theorem dX11_fits_1 : decode cX11_fits 1 = .ok (.iload_n 1, 1) := by decide +kernel
theorem dX11_fits_2 : decode cX11_fits 2 = .ok (.invokevirtual 207, 3) := by decide +kernel
theorem dX11_fits_5 : decode cX11_fits 5 = .ok (.ifCond .eq 19, 3) := by decide +kernel
theorem dX11_fits_8 : decode cX11_fits 8 = .ok (.aload_n 0, 1) := by decide +kernel
theorem dX11_fits_9 : decode cX11_fits 9 = .ok (.iload_n 1, 1) := by decide +kernel
theorem dX11_fits_10 : decode cX11_fits 10 = .ok (.invokevirtual 210, 3) := by decide +kernel
theorem dX11_fits_13 : decode cX11_fits 13 = .ok (.ifCond .ge 7, 3) := by decide +kernel
theorem dX11_fits_16 : decode cX11_fits 16 = .ok (.iconst 1, 1) := by decide +kernel
theorem dX11_fits_17 : decode cX11_fits 17 = .ok (.goto 13, 3) := by decide +kernel
theorem dX11_fits_20 : decode cX11_fits 20 = .ok (.iconst 0, 1) := by decide +kernel
theorem dX11_fits_21 : decode cX11_fits 21 = .ok (.goto 9, 3) := by decide +kernel
theorem dX11_fits_24 : decode cX11_fits 24 = .ok (.aload_n 0, 1) := by decide +kernel
theorem dX11_fits_25 : decode cX11_fits 25 = .ok (.ldc 87, 2) := by decide +kernel
theorem dX11_fits_27 : decode cX11_fits 27 = .ok (.invokevirtual 88, 3) := by decide +kernel
theorem dX11_fits_30 : decode cX11_fits 30 = .ok (.ireturn, 1) := by decide +kernel
theorem dX11_bars_0 : decode cX11_bars 0 = .ok (.aload_n 0, 1) := by decide +kernel
theorem dX11_bars_1 : decode cX11_bars 1 = .ok (.iload_n 1, 1) := by decide +kernel
theorem dX11_bars_2 : decode cX11_bars 2 = .ok (.invokevirtual 207, 3) := by decide +kernel
theorem dX11_bars_5 : decode cX11_bars 5 = .ok (.ifCond .eq 11, 3) := by decide +kernel
theorem dX11_bars_8 : decode cX11_bars 8 = .ok (.aload_n 0, 1) := by decide +kernel
theorem dX11_bars_9 : decode cX11_bars 9 = .ok (.iload_n 1, 1) := by decide +kernel
theorem dX11_bars_10 : decode cX11_bars 10 = .ok (.invokevirtual 210, 3) := by decide +kernel
theorem dX11_bars_13 : decode cX11_bars 13 = .ok (.goto 9, 3) := by decide +kernel
theorem dX11_bars_16 : decode cX11_bars 16 = .ok (.aload_n 0, 1) := by decide +kernel
theorem dX11_bars_17 : decode cX11_bars 17 = .ok (.ldc 87, 2) := by decide +kernel
theorem dX11_bars_19 : decode cX11_bars 19 = .ok (.invokevirtual 88, 3) := by decide +kernel
theorem dX11_bars_22 : decode cX11_bars 22 = .ok (.ireturn, 1) := by decide +kernel
theorem dX11_findFitting_0 : decode cX11_findFitting 0 = .ok (.iconst 0, 1) := by decide +kernel
theorem dX11_findFitting_1 : decode cX11_findFitting 1 = .ok (.istore_n 1, 1) := by decide +kernel
theorem dX11_findFitting_2 : decode cX11_findFitting 2 = .ok (.iload_n 1, 1) := by decide +kernel
theorem dX11_findFitting_3 : decode cX11_findFitting 3 = .ok (.bipush 14, 2) := by decide +kernel
theorem dX11_findFitting_5 : decode cX11_findFitting 5 = .ok (.if_icmp .ge 16, 3) := by decide +kernel
theorem dX11_findFitting_8 : decode cX11_findFitting 8 = .ok (.aload_n 0, 1) := by decide +kernel
theorem dX11_findFitting_9 : decode cX11_findFitting 9 = .ok (.getfield 46, 3) := by decide +kernel
theorem dX11_findFitting_12 : decode cX11_findFitting 12 = .ok (.iload_n 1, 1) := by decide +kernel
theorem dX11_findFitting_13 : decode cX11_findFitting 13 = .ok (.iconst 0, 1) := by decide +kernel
theorem dX11_findFitting_14 : decode cX11_findFitting 14 = .ok (.iastore, 1) := by decide +kernel
theorem dX11_findFitting_15 : decode cX11_findFitting 15 = .ok (.iinc 1 1, 3) := by decide +kernel
theorem dX11_findFitting_18 : decode cX11_findFitting 18 = .ok (.goto (-16), 3) := by decide +kernel
theorem dX11_findFitting_21 : decode cX11_findFitting 21 = .ok (.aload_n 0, 1) := by decide +kernel
theorem dX11_findFitting_22 : decode cX11_findFitting 22 = .ok (.iconst 0, 1) := by decide +kernel
theorem dX11_findFitting_23 : decode cX11_findFitting 23 = .ok (.putfield 213, 3) := by decide +kernel
theorem dX11_findFitting_26 : decode cX11_findFitting 26 = .ok (.iconst 0, 1) := by decide +kernel
theorem dX11_findFitting_27 : decode cX11_findFitting 27 = .ok (.istore_n 1, 1) := by decide +kernel
theorem dX11_findFitting_28 : decode cX11_findFitting 28 = .ok (.iload_n 1, 1) := by decide +kernel
theorem dX11_findFitting_29 : decode cX11_findFitting 29 = .ok (.aload_n 0, 1) := by decide +kernel
theorem dX11_findFitting_30 : decode cX11_findFitting 30 = .ok (.invokevirtual 192, 3) := by decide +kernel
theorem dX11_findFitting_33 : decode cX11_findFitting 33 = .ok (.if_icmp .gt 67, 3) := by decide +kernel
theorem dX11_findFitting_36 : decode cX11_findFitting 36 = .ok (.aload_n 0, 1) := by decide +kernel
theorem dX11_findFitting_37 : decode cX11_findFitting 37 = .ok (.getfield 43, 3) := by decide +kernel
theorem dX11_findFitting_40 : decode cX11_findFitting 40 = .ok (.iload_n 1, 1) := by decide +kernel
theorem dX11_findFitting_41 : decode cX11_findFitting 41 = .ok (.aload_n 0, 1) := by decide +kernel
theorem dX11_findFitting_42 : decode cX11_findFitting 42 = .ok (.iload_n 1, 1) := by decide +kernel
theorem dX11_findFitting_43 : decode cX11_findFitting 43 = .ok (.invokevirtual 210, 3) := by decide +kernel
theorem dX11_findFitting_46 : decode cX11_findFitting 46 = .ok (.ifCond .ge 10, 3) := by decide +kernel
theorem dX11_findFitting_49 : decode cX11_findFitting 49 = .ok (.iload_n 1, 1) := by decide +kernel
theorem dX11_findFitting_50 : decode cX11_findFitting 50 = .ok (.invokestatic 202, 3) := by decide +kernel
theorem dX11_findFitting_53 : decode cX11_findFitting 53 = .ok (.goto 4, 3) := by decide +kernel
theorem dX11_findFitting_56 : decode cX11_findFitting 56 = .ok (.iconst (-1), 1) := by decide +kernel
theorem dX11_findFitting_57 : decode cX11_findFitting 57 = .ok (.iastore, 1) := by decide +kernel
theorem dX11_findFitting_58 : decode cX11_findFitting 58 = .ok (.aload_n 0, 1) := by decide +kernel
theorem dX11_findFitting_59 : decode cX11_findFitting 59 = .ok (.getfield 43, 3) := by decide +kernel
theorem dX11_findFitting_62 : decode cX11_findFitting 62 = .ok (.iload_n 1, 1) := by decide +kernel
theorem dX11_findFitting_63 : decode cX11_findFitting 63 = .ok (.iaload, 1) := by decide +kernel
theorem dX11_findFitting_64 : decode cX11_findFitting 64 = .ok (.ifCond .lt 30, 3) := by decide +kernel
theorem dX11_findFitting_67 : decode cX11_findFitting 67 = .ok (.aload_n 0, 1) := by decide +kernel
theorem dX11_findFitting_68 : decode cX11_findFitting 68 = .ok (.getfield 46, 3) := by decide +kernel
theorem dX11_findFitting_71 : decode cX11_findFitting 71 = .ok (.aload_n 0, 1) := by decide +kernel
theorem dX11_findFitting_72 : decode cX11_findFitting 72 = .ok (.getfield 43, 3) := by decide +kernel
theorem dX11_findFitting_75 : decode cX11_findFitting 75 = .ok (.iload_n 1, 1) := by decide +kernel
theorem dX11_findFitting_76 : decode cX11_findFitting 76 = .ok (.iaload, 1) := by decide +kernel
theorem dX11_findFitting_77 : decode cX11_findFitting 77 = .ok (.iconst 1, 1) := by decide +kernel
theorem dX11_findFitting_78 : decode cX11_findFitting 78 = .ok (.iadd, 1) := by decide +kernel
theorem dX11_findFitting_79 : decode cX11_findFitting 79 = .ok (.dup2, 1) := by decide +kernel
theorem dX11_findFitting_80 : decode cX11_findFitting 80 = .ok (.iaload, 1) := by decide +kernel
theorem dX11_findFitting_81 : decode cX11_findFitting 81 = .ok (.iconst 1, 1) := by decide +kernel
theorem dX11_findFitting_82 : decode cX11_findFitting 82 = .ok (.iadd, 1) := by decide +kernel
theorem dX11_findFitting_83 : decode cX11_findFitting 83 = .ok (.iastore, 1) := by decide +kernel
theorem dX11_findFitting_84 : decode cX11_findFitting 84 = .ok (.aload_n 0, 1) := by decide +kernel
theorem dX11_findFitting_85 : decode cX11_findFitting 85 = .ok (.dup, 1) := by decide +kernel
theorem dX11_findFitting_86 : decode cX11_findFitting 86 = .ok (.getfield 213, 3) := by decide +kernel
theorem dX11_findFitting_89 : decode cX11_findFitting 89 = .ok (.iconst 1, 1) := by decide +kernel
theorem dX11_findFitting_90 : decode cX11_findFitting 90 = .ok (.iadd, 1) := by decide +kernel
theorem dX11_findFitting_91 : decode cX11_findFitting 91 = .ok (.putfield 213, 3) := by decide +kernel
theorem dX11_findFitting_94 : decode cX11_findFitting 94 = .ok (.iinc 1 1, 3) := by decide +kernel
theorem dX11_findFitting_97 : decode cX11_findFitting 97 = .ok (.goto (-69), 3) := by decide +kernel
theorem dX11_findFitting_100 : decode cX11_findFitting 100 = .ok (.iconst 1, 1) := by decide +kernel
theorem dX11_findFitting_101 : decode cX11_findFitting 101 = .ok (.istore_n 1, 1) := by decide +kernel
theorem dX11_findFitting_102 : decode cX11_findFitting 102 = .ok (.iload_n 1, 1) := by decide +kernel
theorem dX11_findFitting_103 : decode cX11_findFitting 103 = .ok (.bipush 14, 2) := by decide +kernel
theorem dX11_findFitting_105 : decode cX11_findFitting 105 = .ok (.if_icmp .ge 26, 3) := by decide +kernel
theorem dX11_findFitting_108 : decode cX11_findFitting 108 = .ok (.aload_n 0, 1) := by decide +kernel
theorem dX11_findFitting_109 : decode cX11_findFitting 109 = .ok (.getfield 46, 3) := by decide +kernel
theorem dX11_findFitting_112 : decode cX11_findFitting 112 = .ok (.iload_n 1, 1) := by decide +kernel
theorem dX11_findFitting_113 : decode cX11_findFitting 113 = .ok (.dup2, 1) := by decide +kernel
theorem dX11_findFitting_114 : decode cX11_findFitting 114 = .ok (.iaload, 1) := by decide +kernel
theorem dX11_findFitting_115 : decode cX11_findFitting 115 = .ok (.aload_n 0, 1) := by decide +kernel
theorem dX11_findFitting_116 : decode cX11_findFitting 116 = .ok (.getfield 46, 3) := by decide +kernel
theorem dX11_findFitting_119 : decode cX11_findFitting 119 = .ok (.iload_n 1, 1) := by decide +kernel
theorem dX11_findFitting_120 : decode cX11_findFitting 120 = .ok (.iconst 1, 1) := by decide +kernel
theorem dX11_findFitting_121 : decode cX11_findFitting 121 = .ok (.isub, 1) := by decide +kernel
theorem dX11_findFitting_122 : decode cX11_findFitting 122 = .ok (.iaload, 1) := by decide +kernel
theorem dX11_findFitting_123 : decode cX11_findFitting 123 = .ok (.iadd, 1) := by decide +kernel
theorem dX11_findFitting_124 : decode cX11_findFitting 124 = .ok (.iastore, 1) := by decide +kernel
theorem dX11_findFitting_125 : decode cX11_findFitting 125 = .ok (.iinc 1 1, 3) := by decide +kernel
theorem dX11_findFitting_128 : decode cX11_findFitting 128 = .ok (.goto (-26), 3) := by decide +kernel
theorem dX11_findFitting_131 : decode cX11_findFitting 131 = .ok (.iconst 0, 1) := by decide +kernel
theorem dX11_findFitting_132 : decode cX11_findFitting 132 = .ok (.istore_n 1, 1) := by decide +kernel
theorem dX11_findFitting_133 : decode cX11_findFitting 133 = .ok (.iload_n 1, 1) := by decide +kernel
theorem dX11_findFitting_134 : decode cX11_findFitting 134 = .ok (.aload_n 0, 1) := by decide +kernel
theorem dX11_findFitting_135 : decode cX11_findFitting 135 = .ok (.invokevirtual 192, 3) := by decide +kernel
theorem dX11_findFitting_138 : decode cX11_findFitting 138 = .ok (.if_icmp .gt 50, 3) := by decide +kernel
theorem dX11_findFitting_141 : decode cX11_findFitting 141 = .ok (.aload_n 0, 1) := by decide +kernel
theorem dX11_findFitting_142 : decode cX11_findFitting 142 = .ok (.getfield 43, 3) := by decide +kernel
theorem dX11_findFitting_145 : decode cX11_findFitting 145 = .ok (.iload_n 1, 1) := by decide +kernel
theorem dX11_findFitting_146 : decode cX11_findFitting 146 = .ok (.iaload, 1) := by decide +kernel
theorem dX11_findFitting_147 : decode cX11_findFitting 147 = .ok (.ifCond .lt 35, 3) := by decide +kernel
theorem dX11_findFitting_150 : decode cX11_findFitting 150 = .ok (.aload_n 0, 1) := by decide +kernel
theorem dX11_findFitting_151 : decode cX11_findFitting 151 = .ok (.getfield 40, 3) := by decide +kernel
theorem dX11_findFitting_154 : decode cX11_findFitting 154 = .ok (.aload_n 0, 1) := by decide +kernel
theorem dX11_findFitting_155 : decode cX11_findFitting 155 = .ok (.getfield 46, 3) := by decide +kernel
theorem dX11_findFitting_158 : decode cX11_findFitting 158 = .ok (.aload_n 0, 1) := by decide +kernel
theorem dX11_findFitting_159 : decode cX11_findFitting 159 = .ok (.getfield 43, 3) := by decide +kernel
theorem dX11_findFitting_162 : decode cX11_findFitting 162 = .ok (.iload_n 1, 1) := by decide +kernel
theorem dX11_findFitting_163 : decode cX11_findFitting 163 = .ok (.iaload, 1) := by decide +kernel
theorem dX11_findFitting_164 : decode cX11_findFitting 164 = .ok (.iaload, 1) := by decide +kernel
theorem dX11_findFitting_165 : decode cX11_findFitting 165 = .ok (.iload_n 1, 1) := by decide +kernel
theorem dX11_findFitting_166 : decode cX11_findFitting 166 = .ok (.iastore, 1) := by decide +kernel
theorem dX11_findFitting_167 : decode cX11_findFitting 167 = .ok (.aload_n 0, 1) := by decide +kernel
theorem dX11_findFitting_168 : decode cX11_findFitting 168 = .ok (.getfield 46, 3) := by decide +kernel
theorem dX11_findFitting_171 : decode cX11_findFitting 171 = .ok (.aload_n 0, 1) := by decide +kernel
theorem dX11_findFitting_172 : decode cX11_findFitting 172 = .ok (.getfield 43, 3) := by decide +kernel
theorem dX11_findFitting_175 : decode cX11_findFitting 175 = .ok (.iload_n 1, 1) := by decide +kernel
theorem dX11_findFitting_176 : decode cX11_findFitting 176 = .ok (.iaload, 1) := by decide +kernel
theorem dX11_findFitting_177 : decode cX11_findFitting 177 = .ok (.dup2, 1) := by decide +kernel
theorem dX11_findFitting_178 : decode cX11_findFitting 178 = .ok (.iaload, 1) := by decide +kernel
theorem dX11_findFitting_179 : decode cX11_findFitting 179 = .ok (.iconst 1, 1) := by decide +kernel
theorem dX11_findFitting_180 : decode cX11_findFitting 180 = .ok (.iadd, 1) := by decide +kernel
theorem dX11_findFitting_181 : decode cX11_findFitting 181 = .ok (.iastore, 1) := by decide +kernel
theorem dX11_findFitting_182 : decode cX11_findFitting 182 = .ok (.iinc 1 1, 3) := by decide +kernel
theorem dX11_findFitting_185 : decode cX11_findFitting 185 = .ok (.goto (-52), 3) := by decide +kernel
theorem dX11_findFitting_188 : decode cX11_findFitting 188 = .ok (.return_, 1) := by decide +kernel
theorem dX11_many_0 : decode cX11_many 0 = .ok (.aload_n 0, 1) := by decide +kernel
theorem dX11_many_1 : decode cX11_many 1 = .ok (.invokevirtual 216, 3) := by decide +kernel
theorem dX11_many_4 : decode cX11_many 4 = .ok (.aload_n 0, 1) := by decide +kernel
theorem dX11_many_5 : decode cX11_many 5 = .ok (.getfield 213, 3) := by decide +kernel
theorem dX11_many_8 : decode cX11_many 8 = .ok (.ireturn, 1) := by decide +kernel
theorem dX11_which_0 : decode cX11_which 0 = .ok (.aload_n 0, 1) := by decide +kernel
theorem dX11_which_1 : decode cX11_which 1 = .ok (.invokevirtual 216, 3) := by decide +kernel
theorem dX11_which_4 : decode cX11_which 4 = .ok (.iload_n 1, 1) := by decide +kernel
theorem dX11_which_5 : decode cX11_which 5 = .ok (.iconst 0, 1) := by decide +kernel
theorem dX11_which_6 : decode cX11_which 6 = .ok (.aload_n 0, 1) := by decide +kernel
theorem dX11_which_7 : decode cX11_which 7 = .ok (.getfield 213, 3) := by decide +kernel
theorem dX11_which_10 : decode cX11_which 10 = .ok (.iconst 1, 1) := by decide +kernel
theorem dX11_which_11 : decode cX11_which 11 = .ok (.isub, 1) := by decide +kernel
theorem dX11_which_12 : decode cX11_which 12 = .ok (.invokestatic 83, 3) := by decide +kernel
theorem dX11_which_15 : decode cX11_which 15 = .ok (.ifCond .eq 12, 3) := by decide +kernel
theorem dX11_which_18 : decode cX11_which 18 = .ok (.aload_n 0, 1) := by decide +kernel
theorem dX11_which_19 : decode cX11_which 19 = .ok (.getfield 40, 3) := by decide +kernel
theorem dX11_which_22 : decode cX11_which 22 = .ok (.iload_n 1, 1) := by decide +kernel
theorem dX11_which_23 : decode cX11_which 23 = .ok (.iaload, 1) := by decide +kernel
theorem dX11_which_24 : decode cX11_which 24 = .ok (.goto 9, 3) := by decide +kernel
theorem dX11_which_27 : decode cX11_which 27 = .ok (.aload_n 0, 1) := by decide +kernel
theorem dX11_which_28 : decode cX11_which 28 = .ok (.ldc 87, 2) := by decide +kernel
theorem dX11_which_30 : decode cX11_which 30 = .ok (.invokevirtual 88, 3) := by decide +kernel
theorem dX11_which_33 : decode cX11_which 33 = .ok (.ireturn, 1) := by decide +kernel
theorem dX11_sure_0 : decode cX11_sure 0 = .ok (.iload_n 1, 1) := by decide +kernel
theorem dX11_sure_1 : decode cX11_sure 1 = .ok (.iconst 0, 1) := by decide +kernel
theorem dX11_sure_2 : decode cX11_sure 2 = .ok (.iconst 1, 1) := by decide +kernel
theorem dX11_sure_3 : decode cX11_sure 3 = .ok (.invokestatic 83, 3) := by decide +kernel
theorem dX11_sure_6 : decode cX11_sure 6 = .ok (.ifCond .ne 10, 3) := by decide +kernel
theorem dX11_sure_9 : decode cX11_sure 9 = .ok (.aload_n 0, 1) := by decide +kernel
theorem dX11_sure_10 : decode cX11_sure 10 = .ok (.ldc 87, 2) := by decide +kernel
theorem dX11_sure_12 : decode cX11_sure 12 = .ok (.invokevirtual 88, 3) := by decide +kernel
theorem dX11_sure_15 : decode cX11_sure 15 = .ok (.ireturn, 1) := by decide +kernel
theorem dX11_sure_16 : decode cX11_sure 16 = .ok (.aload_n 0, 1) := by decide +kernel
theorem dX11_sure_17 : decode cX11_sure 17 = .ok (.invokevirtual 216, 3) := by decide +kernel
theorem dX11_sure_20 : decode cX11_sure 20 = .ok (.aload_n 0, 1) := by decide +kernel
theorem dX11_sure_21 : decode cX11_sure 21 = .ok (.getfield 213, 3) := by decide +kernel
theorem dX11_sure_24 : decode cX11_sure 24 = .ok (.ifCond .ne 10, 3) := by decide +kernel
theorem dX11_sure_27 : decode cX11_sure 27 = .ok (.aload_n 0, 1) := by decide +kernel
theorem dX11_sure_28 : decode cX11_sure 28 = .ok (.ldc 219, 2) := by decide +kernel
theorem dX11_sure_30 : decode cX11_sure 30 = .ok (.invokevirtual 88, 3) := by decide +kernel
theorem dX11_sure_33 : decode cX11_sure 33 = .ok (.ireturn, 1) := by decide +kernel
theorem dX11_sure_34 : decode cX11_sure 34 = .ok (.aload_n 0, 1) := by decide +kernel
theorem dX11_sure_35 : decode cX11_sure 35 = .ok (.invokevirtual 192, 3) := by decide +kernel
theorem dX11_sure_38 : decode cX11_sure 38 = .ok (.istore_n 2, 1) := by decide +kernel
theorem dX11_sure_39 : decode cX11_sure 39 = .ok (.iconst 0, 1) := by decide +kernel
theorem dX11_sure_40 : decode cX11_sure 40 = .ok (.istore_n 3, 1) := by decide +kernel
theorem dX11_sure_41 : decode cX11_sure 41 = .ok (.iconst 0, 1) := by decide +kernel
theorem dX11_sure_42 : decode cX11_sure 42 = .ok (.istore 4, 2) := by decide +kernel
theorem dX11_sure_44 : decode cX11_sure 44 = .ok (.iload 4, 2) := by decide +kernel
theorem dX11_sure_46 : decode cX11_sure 46 = .ok (.aload_n 0, 1) := by decide +kernel
theorem dX11_sure_47 : decode cX11_sure 47 = .ok (.getfield 213, 3) := by decide +kernel
theorem dX11_sure_50 : decode cX11_sure 50 = .ok (.if_icmp .ge 29, 3) := by decide +kernel
theorem dX11_sure_53 : decode cX11_sure 53 = .ok (.iload_n 2, 1) := by decide +kernel
theorem dX11_sure_54 : decode cX11_sure 54 = .ok (.aload_n 0, 1) := by decide +kernel
theorem dX11_sure_55 : decode cX11_sure 55 = .ok (.getfield 40, 3) := by decide +kernel
theorem dX11_sure_58 : decode cX11_sure 58 = .ok (.iload 4, 2) := by decide +kernel
theorem dX11_sure_60 : decode cX11_sure 60 = .ok (.iaload, 1) := by decide +kernel
theorem dX11_sure_61 : decode cX11_sure 61 = .ok (.iand, 1) := by decide +kernel
theorem dX11_sure_62 : decode cX11_sure 62 = .ok (.istore_n 2, 1) := by decide +kernel
theorem dX11_sure_63 : decode cX11_sure 63 = .ok (.iload_n 3, 1) := by decide +kernel
theorem dX11_sure_64 : decode cX11_sure 64 = .ok (.aload_n 0, 1) := by decide +kernel
theorem dX11_sure_65 : decode cX11_sure 65 = .ok (.getfield 40, 3) := by decide +kernel
theorem dX11_sure_68 : decode cX11_sure 68 = .ok (.iload 4, 2) := by decide +kernel
theorem dX11_sure_70 : decode cX11_sure 70 = .ok (.iaload, 1) := by decide +kernel
theorem dX11_sure_71 : decode cX11_sure 71 = .ok (.ior, 1) := by decide +kernel
theorem dX11_sure_72 : decode cX11_sure 72 = .ok (.istore_n 3, 1) := by decide +kernel
theorem dX11_sure_73 : decode cX11_sure 73 = .ok (.iinc 4 1, 3) := by decide +kernel
theorem dX11_sure_76 : decode cX11_sure 76 = .ok (.goto (-32), 3) := by decide +kernel
theorem dX11_sure_79 : decode cX11_sure 79 = .ok (.iload_n 1, 1) := by decide +kernel
theorem dX11_sure_80 : decode cX11_sure 80 = .ok (.ifCond .ne 7, 3) := by decide +kernel
theorem dX11_sure_83 : decode cX11_sure 83 = .ok (.iload_n 2, 1) := by decide +kernel
theorem dX11_sure_84 : decode cX11_sure 84 = .ok (.goto 11, 3) := by decide +kernel
theorem dX11_sure_87 : decode cX11_sure 87 = .ok (.aload_n 0, 1) := by decide +kernel
theorem dX11_sure_88 : decode cX11_sure 88 = .ok (.invokevirtual 192, 3) := by decide +kernel
theorem dX11_sure_91 : decode cX11_sure 91 = .ok (.iload_n 3, 1) := by decide +kernel
theorem dX11_sure_92 : decode cX11_sure 92 = .ok (.iconst (-1), 1) := by decide +kernel
theorem dX11_sure_93 : decode cX11_sure 93 = .ok (.ixor, 1) := by decide +kernel
theorem dX11_sure_94 : decode cX11_sure 94 = .ok (.iand, 1) := by decide +kernel
theorem dX11_sure_95 : decode cX11_sure 95 = .ok (.ireturn, 1) := by decide +kernel
theorem dX11_blame_0 : decode cX11_blame 0 = .ok (.iload_n 1, 1) := by decide +kernel
theorem dX11_blame_1 : decode cX11_blame 1 = .ok (.iconst 0, 1) := by decide +kernel
theorem dX11_blame_2 : decode cX11_blame 2 = .ok (.iconst 1, 1) := by decide +kernel
theorem dX11_blame_3 : decode cX11_blame 3 = .ok (.invokestatic 83, 3) := by decide +kernel
theorem dX11_blame_6 : decode cX11_blame 6 = .ok (.ifCond .ne 10, 3) := by decide +kernel
theorem dX11_blame_9 : decode cX11_blame 9 = .ok (.aload_n 0, 1) := by decide +kernel
theorem dX11_blame_10 : decode cX11_blame 10 = .ok (.ldc 87, 2) := by decide +kernel
theorem dX11_blame_12 : decode cX11_blame 12 = .ok (.invokevirtual 88, 3) := by decide +kernel
theorem dX11_blame_15 : decode cX11_blame 15 = .ok (.ireturn, 1) := by decide +kernel
theorem dX11_blame_16 : decode cX11_blame 16 = .ok (.iconst 0, 1) := by decide +kernel
theorem dX11_blame_17 : decode cX11_blame 17 = .ok (.istore_n 2, 1) := by decide +kernel
theorem dX11_blame_18 : decode cX11_blame 18 = .ok (.bipush 61, 2) := by decide +kernel
theorem dX11_blame_20 : decode cX11_blame 20 = .ok (.istore_n 3, 1) := by decide +kernel
theorem dX11_blame_21 : decode cX11_blame 21 = .ok (.iconst 0, 1) := by decide +kernel
theorem dX11_blame_22 : decode cX11_blame 22 = .ok (.istore 4, 2) := by decide +kernel
theorem dX11_blame_24 : decode cX11_blame 24 = .ok (.iload 4, 2) := by decide +kernel
theorem dX11_blame_26 : decode cX11_blame 26 = .ok (.aload_n 0, 1) := by decide +kernel
theorem dX11_blame_27 : decode cX11_blame 27 = .ok (.invokevirtual 192, 3) := by decide +kernel
theorem dX11_blame_30 : decode cX11_blame 30 = .ok (.if_icmp .gt 118, 3) := by decide +kernel
theorem dX11_blame_33 : decode cX11_blame 33 = .ok (.iconst 0, 1) := by decide +kernel
theorem dX11_blame_34 : decode cX11_blame 34 = .ok (.istore 5, 2) := by decide +kernel
theorem dX11_blame_36 : decode cX11_blame 36 = .ok (.iconst 0, 1) := by decide +kernel
theorem dX11_blame_37 : decode cX11_blame 37 = .ok (.istore 6, 2) := by decide +kernel
theorem dX11_blame_39 : decode cX11_blame 39 = .ok (.iload 6, 2) := by decide +kernel
theorem dX11_blame_41 : decode cX11_blame 41 = .ok (.aload_n 0, 1) := by decide +kernel
theorem dX11_blame_42 : decode cX11_blame 42 = .ok (.getfield 9, 3) := by decide +kernel
theorem dX11_blame_45 : decode cX11_blame 45 = .ok (.iconst 1, 1) := by decide +kernel
theorem dX11_blame_46 : decode cX11_blame 46 = .ok (.iaload, 1) := by decide +kernel
theorem dX11_blame_47 : decode cX11_blame 47 = .ok (.if_icmp .ge 39, 3) := by decide +kernel
theorem dX11_blame_50 : decode cX11_blame 50 = .ok (.iload 5, 2) := by decide +kernel
theorem dX11_blame_52 : decode cX11_blame 52 = .ok (.aload_n 0, 1) := by decide +kernel
theorem dX11_blame_53 : decode cX11_blame 53 = .ok (.iload 6, 2) := by decide +kernel
theorem dX11_blame_55 : decode cX11_blame 55 = .ok (.invokevirtual 111, 3) := by decide +kernel
theorem dX11_blame_58 : decode cX11_blame 58 = .ok (.ifCond .eq 18, 3) := by decide +kernel
theorem dX11_blame_61 : decode cX11_blame 61 = .ok (.aload_n 0, 1) := by decide +kernel
theorem dX11_blame_62 : decode cX11_blame 62 = .ok (.iload 4, 2) := by decide +kernel
theorem dX11_blame_64 : decode cX11_blame 64 = .ok (.iload 6, 2) := by decide +kernel
theorem dX11_blame_66 : decode cX11_blame 66 = .ok (.invokevirtual 205, 3) := by decide +kernel
theorem dX11_blame_69 : decode cX11_blame 69 = .ok (.ifCond .ne 7, 3) := by decide +kernel
theorem dX11_blame_72 : decode cX11_blame 72 = .ok (.iconst 1, 1) := by decide +kernel
theorem dX11_blame_73 : decode cX11_blame 73 = .ok (.goto 4, 3) := by decide +kernel
theorem dX11_blame_76 : decode cX11_blame 76 = .ok (.iconst 0, 1) := by decide +kernel
theorem dX11_blame_77 : decode cX11_blame 77 = .ok (.iadd, 1) := by decide +kernel
theorem dX11_blame_78 : decode cX11_blame 78 = .ok (.istore 5, 2) := by decide +kernel
theorem dX11_blame_80 : decode cX11_blame 80 = .ok (.iinc 6 1, 3) := by decide +kernel
theorem dX11_blame_83 : decode cX11_blame 83 = .ok (.goto (-44), 3) := by decide +kernel
theorem dX11_blame_86 : decode cX11_blame 86 = .ok (.iload 5, 2) := by decide +kernel
theorem dX11_blame_88 : decode cX11_blame 88 = .ok (.iload_n 3, 1) := by decide +kernel
theorem dX11_blame_89 : decode cX11_blame 89 = .ok (.if_icmp .lt 21, 3) := by decide +kernel
theorem dX11_blame_92 : decode cX11_blame 92 = .ok (.iload 5, 2) := by decide +kernel
theorem dX11_blame_94 : decode cX11_blame 94 = .ok (.iload_n 3, 1) := by decide +kernel
theorem dX11_blame_95 : decode cX11_blame 95 = .ok (.if_icmp .ne 19, 3) := by decide +kernel
theorem dX11_blame_98 : decode cX11_blame 98 = .ok (.iload 4, 2) := by decide +kernel
theorem dX11_blame_100 : decode cX11_blame 100 = .ok (.invokestatic 202, 3) := by decide +kernel
theorem dX11_blame_103 : decode cX11_blame 103 = .ok (.iload_n 2, 1) := by decide +kernel
theorem dX11_blame_104 : decode cX11_blame 104 = .ok (.invokestatic 202, 3) := by decide +kernel
theorem dX11_blame_107 : decode cX11_blame 107 = .ok (.if_icmp .ge 7, 3) := by decide +kernel
theorem dX11_blame_110 : decode cX11_blame 110 = .ok (.iconst 1, 1) := by decide +kernel
theorem dX11_blame_111 : decode cX11_blame 111 = .ok (.goto 4, 3) := by decide +kernel
theorem dX11_blame_114 : decode cX11_blame 114 = .ok (.iconst 0, 1) := by decide +kernel
theorem dX11_blame_115 : decode cX11_blame 115 = .ok (.istore 6, 2) := by decide +kernel
theorem dX11_blame_117 : decode cX11_blame 117 = .ok (.iload 4, 2) := by decide +kernel
theorem dX11_blame_119 : decode cX11_blame 119 = .ok (.invokestatic 202, 3) := by decide +kernel
theorem dX11_blame_122 : decode cX11_blame 122 = .ok (.aload_n 0, 1) := by decide +kernel
theorem dX11_blame_123 : decode cX11_blame 123 = .ok (.getfield 9, 3) := by decide +kernel
theorem dX11_blame_126 : decode cX11_blame 126 = .ok (.iconst 2, 1) := by decide +kernel
theorem dX11_blame_127 : decode cX11_blame 127 = .ok (.iaload, 1) := by decide +kernel
theorem dX11_blame_128 : decode cX11_blame 128 = .ok (.if_icmp .gt 14, 3) := by decide +kernel
theorem dX11_blame_131 : decode cX11_blame 131 = .ok (.iload 6, 2) := by decide +kernel
theorem dX11_blame_133 : decode cX11_blame 133 = .ok (.ifCond .eq 9, 3) := by decide +kernel
theorem dX11_blame_136 : decode cX11_blame 136 = .ok (.iload 4, 2) := by decide +kernel
theorem dX11_blame_138 : decode cX11_blame 138 = .ok (.istore_n 2, 1) := by decide +kernel
theorem dX11_blame_139 : decode cX11_blame 139 = .ok (.iload 5, 2) := by decide +kernel
theorem dX11_blame_141 : decode cX11_blame 141 = .ok (.istore_n 3, 1) := by decide +kernel
theorem dX11_blame_142 : decode cX11_blame 142 = .ok (.iinc 4 1, 3) := by decide +kernel
theorem dX11_blame_145 : decode cX11_blame 145 = .ok (.goto (-121), 3) := by decide +kernel
theorem dX11_blame_148 : decode cX11_blame 148 = .ok (.iload_n 1, 1) := by decide +kernel
theorem dX11_blame_149 : decode cX11_blame 149 = .ok (.ifCond .ne 7, 3) := by decide +kernel
theorem dX11_blame_152 : decode cX11_blame 152 = .ok (.iload_n 3, 1) := by decide +kernel
theorem dX11_blame_153 : decode cX11_blame 153 = .ok (.goto 4, 3) := by decide +kernel
theorem dX11_blame_156 : decode cX11_blame 156 = .ok (.iload_n 2, 1) := by decide +kernel
theorem dX11_blame_157 : decode cX11_blame 157 = .ok (.ireturn, 1) := by decide +kernel
theorem dX11_leads_0 : decode cX11_leads 0 = .ok (.aload_n 0, 1) := by decide +kernel
theorem dX11_leads_1 : decode cX11_leads 1 = .ok (.iload_n 1, 1) := by decide +kernel
theorem dX11_leads_2 : decode cX11_leads 2 = .ok (.iconst 0, 1) := by decide +kernel
theorem dX11_leads_3 : decode cX11_leads 3 = .ok (.invokevirtual 101, 3) := by decide +kernel
theorem dX11_leads_6 : decode cX11_leads 6 = .ok (.ifCond .ne 10, 3) := by decide +kernel
theorem dX11_leads_9 : decode cX11_leads 9 = .ok (.aload_n 0, 1) := by decide +kernel
theorem dX11_leads_10 : decode cX11_leads 10 = .ok (.ldc 87, 2) := by decide +kernel
theorem dX11_leads_12 : decode cX11_leads 12 = .ok (.invokevirtual 88, 3) := by decide +kernel
theorem dX11_leads_15 : decode cX11_leads 15 = .ok (.ireturn, 1) := by decide +kernel
theorem dX11_leads_16 : decode cX11_leads 16 = .ok (.iconst 1, 1) := by decide +kernel
theorem dX11_leads_17 : decode cX11_leads 17 = .ok (.iload_n 1, 1) := by decide +kernel
theorem dX11_leads_18 : decode cX11_leads 18 = .ok (.ishl, 1) := by decide +kernel
theorem dX11_leads_19 : decode cX11_leads 19 = .ok (.istore_n 2, 1) := by decide +kernel
theorem dX11_leads_20 : decode cX11_leads 20 = .ok (.iconst 0, 1) := by decide +kernel
theorem dX11_leads_21 : decode cX11_leads 21 = .ok (.istore_n 3, 1) := by decide +kernel
theorem dX11_leads_22 : decode cX11_leads 22 = .ok (.iload_n 2, 1) := by decide +kernel
theorem dX11_leads_23 : decode cX11_leads 23 = .ok (.iload_n 3, 1) := by decide +kernel
theorem dX11_leads_24 : decode cX11_leads 24 = .ok (.if_icmp .eq 116, 3) := by decide +kernel
theorem dX11_leads_27 : decode cX11_leads 27 = .ok (.iload_n 2, 1) := by decide +kernel
theorem dX11_leads_28 : decode cX11_leads 28 = .ok (.istore_n 3, 1) := by decide +kernel
theorem dX11_leads_29 : decode cX11_leads 29 = .ok (.iconst 0, 1) := by decide +kernel
theorem dX11_leads_30 : decode cX11_leads 30 = .ok (.istore 4, 2) := by decide +kernel
theorem dX11_leads_32 : decode cX11_leads 32 = .ok (.iload 4, 2) := by decide +kernel
theorem dX11_leads_34 : decode cX11_leads 34 = .ok (.aload_n 0, 1) := by decide +kernel
theorem dX11_leads_35 : decode cX11_leads 35 = .ok (.getfield 9, 3) := by decide +kernel
theorem dX11_leads_38 : decode cX11_leads 38 = .ok (.iconst 1, 1) := by decide +kernel
theorem dX11_leads_39 : decode cX11_leads 39 = .ok (.iaload, 1) := by decide +kernel
theorem dX11_leads_40 : decode cX11_leads 40 = .ok (.if_icmp .ge 97, 3) := by decide +kernel
theorem dX11_leads_43 : decode cX11_leads 43 = .ok (.aload_n 0, 1) := by decide +kernel
theorem dX11_leads_44 : decode cX11_leads 44 = .ok (.aload_n 0, 1) := by decide +kernel
theorem dX11_leads_45 : decode cX11_leads 45 = .ok (.iload 4, 2) := by decide +kernel
theorem dX11_leads_47 : decode cX11_leads 47 = .ok (.iconst 0, 1) := by decide +kernel
theorem dX11_leads_48 : decode cX11_leads 48 = .ok (.invokevirtual 97, 3) := by decide +kernel
theorem dX11_leads_51 : decode cX11_leads 51 = .ok (.iconst 0, 1) := by decide +kernel
theorem dX11_leads_52 : decode cX11_leads 52 = .ok (.invokevirtual 105, 3) := by decide +kernel
theorem dX11_leads_55 : decode cX11_leads 55 = .ok (.istore 5, 2) := by decide +kernel
theorem dX11_leads_57 : decode cX11_leads 57 = .ok (.aload_n 0, 1) := by decide +kernel
theorem dX11_leads_58 : decode cX11_leads 58 = .ok (.iload 4, 2) := by decide +kernel
theorem dX11_leads_60 : decode cX11_leads 60 = .ok (.invokevirtual 111, 3) := by decide +kernel
theorem dX11_leads_63 : decode cX11_leads 63 = .ok (.ifCond .eq 44, 3) := by decide +kernel
theorem dX11_leads_66 : decode cX11_leads 66 = .ok (.aload_n 0, 1) := by decide +kernel
theorem dX11_leads_67 : decode cX11_leads 67 = .ok (.iload 4, 2) := by decide +kernel
theorem dX11_leads_69 : decode cX11_leads 69 = .ok (.iconst 2, 1) := by decide +kernel
theorem dX11_leads_70 : decode cX11_leads 70 = .ok (.invokevirtual 97, 3) := by decide +kernel
theorem dX11_leads_73 : decode cX11_leads 73 = .ok (.iconst 1, 1) := by decide +kernel
theorem dX11_leads_74 : decode cX11_leads 74 = .ok (.if_icmp .ne 33, 3) := by decide +kernel
theorem dX11_leads_77 : decode cX11_leads 77 = .ok (.iload 5, 2) := by decide +kernel
theorem dX11_leads_79 : decode cX11_leads 79 = .ok (.iconst 3, 1) := by decide +kernel
theorem dX11_leads_80 : decode cX11_leads 80 = .ok (.if_icmp .eq 27, 3) := by decide +kernel
theorem dX11_leads_83 : decode cX11_leads 83 = .ok (.iload 5, 2) := by decide +kernel
theorem dX11_leads_85 : decode cX11_leads 85 = .ok (.iconst 5, 1) := by decide +kernel
theorem dX11_leads_86 : decode cX11_leads 86 = .ok (.if_icmp .eq 21, 3) := by decide +kernel
theorem dX11_leads_89 : decode cX11_leads 89 = .ok (.iload_n 2, 1) := by decide +kernel
theorem dX11_leads_90 : decode cX11_leads 90 = .ok (.aload_n 0, 1) := by decide +kernel
theorem dX11_leads_91 : decode cX11_leads 91 = .ok (.iload 4, 2) := by decide +kernel
theorem dX11_leads_93 : decode cX11_leads 93 = .ok (.iconst 0, 1) := by decide +kernel
theorem dX11_leads_94 : decode cX11_leads 94 = .ok (.invokevirtual 97, 3) := by decide +kernel
theorem dX11_leads_97 : decode cX11_leads 97 = .ok (.invokestatic 195, 3) := by decide +kernel
theorem dX11_leads_100 : decode cX11_leads 100 = .ok (.ifCond .eq 7, 3) := by decide +kernel
theorem dX11_leads_103 : decode cX11_leads 103 = .ok (.iconst 1, 1) := by decide +kernel
theorem dX11_leads_104 : decode cX11_leads 104 = .ok (.goto 4, 3) := by decide +kernel
theorem dX11_leads_107 : decode cX11_leads 107 = .ok (.iconst 0, 1) := by decide +kernel
theorem dX11_leads_108 : decode cX11_leads 108 = .ok (.istore 6, 2) := by decide +kernel
theorem dX11_leads_110 : decode cX11_leads 110 = .ok (.iload_n 2, 1) := by decide +kernel
theorem dX11_leads_111 : decode cX11_leads 111 = .ok (.iload 6, 2) := by decide +kernel
theorem dX11_leads_113 : decode cX11_leads 113 = .ok (.ifCond .eq 15, 3) := by decide +kernel
theorem dX11_leads_116 : decode cX11_leads 116 = .ok (.iconst 1, 1) := by decide +kernel
theorem dX11_leads_117 : decode cX11_leads 117 = .ok (.aload_n 0, 1) := by decide +kernel
theorem dX11_leads_118 : decode cX11_leads 118 = .ok (.iload 4, 2) := by decide +kernel
theorem dX11_leads_120 : decode cX11_leads 120 = .ok (.iconst 1, 1) := by decide +kernel
theorem dX11_leads_121 : decode cX11_leads 121 = .ok (.invokevirtual 97, 3) := by decide +kernel
theorem dX11_leads_124 : decode cX11_leads 124 = .ok (.ishl, 1) := by decide +kernel
theorem dX11_leads_125 : decode cX11_leads 125 = .ok (.goto 4, 3) := by decide +kernel
theorem dX11_leads_128 : decode cX11_leads 128 = .ok (.iconst 0, 1) := by decide +kernel
theorem dX11_leads_129 : decode cX11_leads 129 = .ok (.ior, 1) := by decide +kernel
theorem dX11_leads_130 : decode cX11_leads 130 = .ok (.istore_n 2, 1) := by decide +kernel
theorem dX11_leads_131 : decode cX11_leads 131 = .ok (.iinc 4 1, 3) := by decide +kernel
theorem dX11_leads_134 : decode cX11_leads 134 = .ok (.goto (-102), 3) := by decide +kernel
theorem dX11_leads_137 : decode cX11_leads 137 = .ok (.goto (-115), 3) := by decide +kernel
theorem dX11_leads_140 : decode cX11_leads 140 = .ok (.iload_n 2, 1) := by decide +kernel
theorem dX11_leads_141 : decode cX11_leads 141 = .ok (.ireturn, 1) := by decide +kernel
theorem dX11_findFree_0 : decode cX11_findFree 0 = .ok (.iconst 0, 1) := by decide +kernel
theorem dX11_findFree_1 : decode cX11_findFree 1 = .ok (.istore_n 1, 1) := by decide +kernel
theorem dX11_findFree_2 : decode cX11_findFree 2 = .ok (.iload_n 1, 1) := by decide +kernel
theorem dX11_findFree_3 : decode cX11_findFree 3 = .ok (.aload_n 0, 1) := by decide +kernel
theorem dX11_findFree_4 : decode cX11_findFree 4 = .ok (.invokevirtual 192, 3) := by decide +kernel
theorem dX11_findFree_7 : decode cX11_findFree 7 = .ok (.if_icmp .gt 113, 3) := by decide +kernel
theorem dX11_findFree_10 : decode cX11_findFree 10 = .ok (.aload_n 0, 1) := by decide +kernel
theorem dX11_findFree_11 : decode cX11_findFree 11 = .ok (.getfield 49, 3) := by decide +kernel
theorem dX11_findFree_14 : decode cX11_findFree 14 = .ok (.iload_n 1, 1) := by decide +kernel
theorem dX11_findFree_15 : decode cX11_findFree 15 = .ok (.iconst 0, 1) := by decide +kernel
theorem dX11_findFree_16 : decode cX11_findFree 16 = .ok (.iastore, 1) := by decide +kernel
theorem dX11_findFree_17 : decode cX11_findFree 17 = .ok (.iconst 0, 1) := by decide +kernel
theorem dX11_findFree_18 : decode cX11_findFree 18 = .ok (.istore_n 2, 1) := by decide +kernel
theorem dX11_findFree_19 : decode cX11_findFree 19 = .ok (.iload_n 2, 1) := by decide +kernel
theorem dX11_findFree_20 : decode cX11_findFree 20 = .ok (.aload_n 0, 1) := by decide +kernel
theorem dX11_findFree_21 : decode cX11_findFree 21 = .ok (.getfield 9, 3) := by decide +kernel
theorem dX11_findFree_24 : decode cX11_findFree 24 = .ok (.iconst 0, 1) := by decide +kernel
theorem dX11_findFree_25 : decode cX11_findFree 25 = .ok (.iaload, 1) := by decide +kernel
theorem dX11_findFree_26 : decode cX11_findFree 26 = .ok (.if_icmp .ge 88, 3) := by decide +kernel
theorem dX11_findFree_29 : decode cX11_findFree 29 = .ok (.iconst 0, 1) := by decide +kernel
theorem dX11_findFree_30 : decode cX11_findFree 30 = .ok (.istore_n 3, 1) := by decide +kernel
theorem dX11_findFree_31 : decode cX11_findFree 31 = .ok (.iconst 0, 1) := by decide +kernel
theorem dX11_findFree_32 : decode cX11_findFree 32 = .ok (.istore 4, 2) := by decide +kernel
theorem dX11_findFree_34 : decode cX11_findFree 34 = .ok (.iload 4, 2) := by decide +kernel
theorem dX11_findFree_36 : decode cX11_findFree 36 = .ok (.aload_n 0, 1) := by decide +kernel
theorem dX11_findFree_37 : decode cX11_findFree 37 = .ok (.getfield 9, 3) := by decide +kernel
theorem dX11_findFree_40 : decode cX11_findFree 40 = .ok (.iconst 0, 1) := by decide +kernel
theorem dX11_findFree_41 : decode cX11_findFree 41 = .ok (.iaload, 1) := by decide +kernel
theorem dX11_findFree_42 : decode cX11_findFree 42 = .ok (.if_icmp .ge 38, 3) := by decide +kernel
theorem dX11_findFree_45 : decode cX11_findFree 45 = .ok (.iload_n 3, 1) := by decide +kernel
theorem dX11_findFree_46 : decode cX11_findFree 46 = .ok (.ifCond .ne 22, 3) := by decide +kernel
theorem dX11_findFree_49 : decode cX11_findFree 49 = .ok (.iload_n 1, 1) := by decide +kernel
theorem dX11_findFree_50 : decode cX11_findFree 50 = .ok (.iload 4, 2) := by decide +kernel
theorem dX11_findFree_52 : decode cX11_findFree 52 = .ok (.invokestatic 195, 3) := by decide +kernel
theorem dX11_findFree_55 : decode cX11_findFree 55 = .ok (.ifCond .ne 17, 3) := by decide +kernel
theorem dX11_findFree_58 : decode cX11_findFree 58 = .ok (.aload_n 0, 1) := by decide +kernel
theorem dX11_findFree_59 : decode cX11_findFree 59 = .ok (.iload 4, 2) := by decide +kernel
theorem dX11_findFree_61 : decode cX11_findFree 61 = .ok (.iload_n 2, 1) := by decide +kernel
theorem dX11_findFree_62 : decode cX11_findFree 62 = .ok (.invokevirtual 108, 3) := by decide +kernel
theorem dX11_findFree_65 : decode cX11_findFree 65 = .ok (.ifCond .le 7, 3) := by decide +kernel
theorem dX11_findFree_68 : decode cX11_findFree 68 = .ok (.iconst 1, 1) := by decide +kernel
theorem dX11_findFree_69 : decode cX11_findFree 69 = .ok (.goto 4, 3) := by decide +kernel
theorem dX11_findFree_72 : decode cX11_findFree 72 = .ok (.iconst 0, 1) := by decide +kernel
theorem dX11_findFree_73 : decode cX11_findFree 73 = .ok (.istore_n 3, 1) := by decide +kernel
theorem dX11_findFree_74 : decode cX11_findFree 74 = .ok (.iinc 4 1, 3) := by decide +kernel
theorem dX11_findFree_77 : decode cX11_findFree 77 = .ok (.goto (-43), 3) := by decide +kernel
theorem dX11_findFree_80 : decode cX11_findFree 80 = .ok (.aload_n 0, 1) := by decide +kernel
theorem dX11_findFree_81 : decode cX11_findFree 81 = .ok (.getfield 49, 3) := by decide +kernel
theorem dX11_findFree_84 : decode cX11_findFree 84 = .ok (.iload_n 1, 1) := by decide +kernel
theorem dX11_findFree_85 : decode cX11_findFree 85 = .ok (.dup2, 1) := by decide +kernel
theorem dX11_findFree_86 : decode cX11_findFree 86 = .ok (.iaload, 1) := by decide +kernel
theorem dX11_findFree_87 : decode cX11_findFree 87 = .ok (.iload_n 1, 1) := by decide +kernel
theorem dX11_findFree_88 : decode cX11_findFree 88 = .ok (.iload_n 2, 1) := by decide +kernel
theorem dX11_findFree_89 : decode cX11_findFree 89 = .ok (.invokestatic 195, 3) := by decide +kernel
theorem dX11_findFree_92 : decode cX11_findFree 92 = .ok (.ifCond .eq 13, 3) := by decide +kernel
theorem dX11_findFree_95 : decode cX11_findFree 95 = .ok (.iload_n 3, 1) := by decide +kernel
theorem dX11_findFree_96 : decode cX11_findFree 96 = .ok (.ifCond .ne 9, 3) := by decide +kernel
theorem dX11_findFree_99 : decode cX11_findFree 99 = .ok (.iconst 1, 1) := by decide +kernel
theorem dX11_findFree_100 : decode cX11_findFree 100 = .ok (.iload_n 2, 1) := by decide +kernel
theorem dX11_findFree_101 : decode cX11_findFree 101 = .ok (.ishl, 1) := by decide +kernel
theorem dX11_findFree_102 : decode cX11_findFree 102 = .ok (.goto 4, 3) := by decide +kernel
theorem dX11_findFree_105 : decode cX11_findFree 105 = .ok (.iconst 0, 1) := by decide +kernel
theorem dX11_findFree_106 : decode cX11_findFree 106 = .ok (.ior, 1) := by decide +kernel
theorem dX11_findFree_107 : decode cX11_findFree 107 = .ok (.iastore, 1) := by decide +kernel
theorem dX11_findFree_108 : decode cX11_findFree 108 = .ok (.iinc 2 1, 3) := by decide +kernel
theorem dX11_findFree_111 : decode cX11_findFree 111 = .ok (.goto (-92), 3) := by decide +kernel
theorem dX11_findFree_114 : decode cX11_findFree 114 = .ok (.iinc 1 1, 3) := by decide +kernel
theorem dX11_findFree_117 : decode cX11_findFree 117 = .ok (.goto (-115), 3) := by decide +kernel
theorem dX11_findFree_120 : decode cX11_findFree 120 = .ok (.return_, 1) := by decide +kernel
theorem dX11_unionWith_0 : decode cX11_unionWith 0 = .ok (.iconst (-1), 1) := by decide +kernel
theorem dX11_unionWith_1 : decode cX11_unionWith 1 = .ok (.istore_n 3, 1) := by decide +kernel
theorem dX11_unionWith_2 : decode cX11_unionWith 2 = .ok (.iconst 0, 1) := by decide +kernel
theorem dX11_unionWith_3 : decode cX11_unionWith 3 = .ok (.istore 4, 2) := by decide +kernel
theorem dX11_unionWith_5 : decode cX11_unionWith 5 = .ok (.iconst 1, 1) := by decide +kernel
theorem dX11_unionWith_6 : decode cX11_unionWith 6 = .ok (.istore 5, 2) := by decide +kernel
theorem dX11_unionWith_8 : decode cX11_unionWith 8 = .ok (.iload 5, 2) := by decide +kernel
theorem dX11_unionWith_10 : decode cX11_unionWith 10 = .ok (.aload_n 0, 1) := by decide +kernel
theorem dX11_unionWith_11 : decode cX11_unionWith 11 = .ok (.invokevirtual 192, 3) := by decide +kernel
theorem dX11_unionWith_14 : decode cX11_unionWith 14 = .ok (.if_icmp .gt 86, 3) := by decide +kernel
theorem dX11_unionWith_17 : decode cX11_unionWith 17 = .ok (.iload_n 1, 1) := by decide +kernel
theorem dX11_unionWith_18 : decode cX11_unionWith 18 = .ok (.iload_n 2, 1) := by decide +kernel
theorem dX11_unionWith_19 : decode cX11_unionWith 19 = .ok (.if_icmp .eq 28, 3) := by decide +kernel
theorem dX11_unionWith_22 : decode cX11_unionWith 22 = .ok (.iload 5, 2) := by decide +kernel
theorem dX11_unionWith_24 : decode cX11_unionWith 24 = .ok (.iload_n 1, 1) := by decide +kernel
theorem dX11_unionWith_25 : decode cX11_unionWith 25 = .ok (.invokestatic 195, 3) := by decide +kernel
theorem dX11_unionWith_28 : decode cX11_unionWith 28 = .ok (.ifCond .ne 19, 3) := by decide +kernel
theorem dX11_unionWith_31 : decode cX11_unionWith 31 = .ok (.aload_n 0, 1) := by decide +kernel
theorem dX11_unionWith_32 : decode cX11_unionWith 32 = .ok (.getfield 49, 3) := by decide +kernel
theorem dX11_unionWith_35 : decode cX11_unionWith 35 = .ok (.iload 5, 2) := by decide +kernel
theorem dX11_unionWith_37 : decode cX11_unionWith 37 = .ok (.iaload, 1) := by decide +kernel
theorem dX11_unionWith_38 : decode cX11_unionWith 38 = .ok (.iconst 1, 1) := by decide +kernel
theorem dX11_unionWith_39 : decode cX11_unionWith 39 = .ok (.iload_n 2, 1) := by decide +kernel
theorem dX11_unionWith_40 : decode cX11_unionWith 40 = .ok (.ishl, 1) := by decide +kernel
theorem dX11_unionWith_41 : decode cX11_unionWith 41 = .ok (.iconst (-1), 1) := by decide +kernel
theorem dX11_unionWith_42 : decode cX11_unionWith 42 = .ok (.ixor, 1) := by decide +kernel
theorem dX11_unionWith_43 : decode cX11_unionWith 43 = .ok (.iand, 1) := by decide +kernel
theorem dX11_unionWith_44 : decode cX11_unionWith 44 = .ok (.goto 10, 3) := by decide +kernel
theorem dX11_unionWith_47 : decode cX11_unionWith 47 = .ok (.aload_n 0, 1) := by decide +kernel
theorem dX11_unionWith_48 : decode cX11_unionWith 48 = .ok (.getfield 49, 3) := by decide +kernel
theorem dX11_unionWith_51 : decode cX11_unionWith 51 = .ok (.iload 5, 2) := by decide +kernel
theorem dX11_unionWith_53 : decode cX11_unionWith 53 = .ok (.iaload, 1) := by decide +kernel
theorem dX11_unionWith_54 : decode cX11_unionWith 54 = .ok (.istore 6, 2) := by decide +kernel
theorem dX11_unionWith_56 : decode cX11_unionWith 56 = .ok (.iload 5, 2) := by decide +kernel
theorem dX11_unionWith_58 : decode cX11_unionWith 58 = .ok (.invokestatic 202, 3) := by decide +kernel
theorem dX11_unionWith_61 : decode cX11_unionWith 61 = .ok (.iload 6, 2) := by decide +kernel
theorem dX11_unionWith_63 : decode cX11_unionWith 63 = .ok (.invokestatic 202, 3) := by decide +kernel
theorem dX11_unionWith_66 : decode cX11_unionWith 66 = .ok (.iconst 2, 1) := by decide +kernel
theorem dX11_unionWith_67 : decode cX11_unionWith 67 = .ok (.idiv, 1) := by decide +kernel
theorem dX11_unionWith_68 : decode cX11_unionWith 68 = .ok (.isub, 1) := by decide +kernel
theorem dX11_unionWith_69 : decode cX11_unionWith 69 = .ok (.istore 7, 2) := by decide +kernel
theorem dX11_unionWith_71 : decode cX11_unionWith 71 = .ok (.iload 6, 2) := by decide +kernel
theorem dX11_unionWith_73 : decode cX11_unionWith 73 = .ok (.ifCond .eq 21, 3) := by decide +kernel
theorem dX11_unionWith_76 : decode cX11_unionWith 76 = .ok (.iload_n 3, 1) := by decide +kernel
theorem dX11_unionWith_77 : decode cX11_unionWith 77 = .ok (.ifCond .lt 10, 3) := by decide +kernel
theorem dX11_unionWith_80 : decode cX11_unionWith 80 = .ok (.iload 7, 2) := by decide +kernel
theorem dX11_unionWith_82 : decode cX11_unionWith 82 = .ok (.iload 4, 2) := by decide +kernel
theorem dX11_unionWith_84 : decode cX11_unionWith 84 = .ok (.if_icmp .ge 10, 3) := by decide +kernel
theorem dX11_unionWith_87 : decode cX11_unionWith 87 = .ok (.iload 5, 2) := by decide +kernel
theorem dX11_unionWith_89 : decode cX11_unionWith 89 = .ok (.istore_n 3, 1) := by decide +kernel
theorem dX11_unionWith_90 : decode cX11_unionWith 90 = .ok (.iload 7, 2) := by decide +kernel
theorem dX11_unionWith_92 : decode cX11_unionWith 92 = .ok (.istore 4, 2) := by decide +kernel
theorem dX11_unionWith_94 : decode cX11_unionWith 94 = .ok (.iinc 5 1, 3) := by decide +kernel
theorem dX11_unionWith_97 : decode cX11_unionWith 97 = .ok (.goto (-89), 3) := by decide +kernel
theorem dX11_unionWith_100 : decode cX11_unionWith 100 = .ok (.aload_n 0, 1) := by decide +kernel
theorem dX11_unionWith_101 : decode cX11_unionWith 101 = .ok (.iload 4, 2) := by decide +kernel
theorem dX11_unionWith_103 : decode cX11_unionWith 103 = .ok (.putfield 220, 3) := by decide +kernel
theorem dX11_unionWith_106 : decode cX11_unionWith 106 = .ok (.iload_n 3, 1) := by decide +kernel
theorem dX11_unionWith_107 : decode cX11_unionWith 107 = .ok (.ireturn, 1) := by decide +kernel
theorem dX11_knownWith_0 : decode cX11_knownWith 0 = .ok (.aload_n 0, 1) := by decide +kernel
theorem dX11_knownWith_1 : decode cX11_knownWith 1 = .ok (.iload_n 1, 1) := by decide +kernel
theorem dX11_knownWith_2 : decode cX11_knownWith 2 = .ok (.iload_n 2, 1) := by decide +kernel
theorem dX11_knownWith_3 : decode cX11_knownWith 3 = .ok (.invokevirtual 223, 3) := by decide +kernel
theorem dX11_knownWith_6 : decode cX11_knownWith 6 = .ok (.ifCond .ge 8, 3) := by decide +kernel
theorem dX11_knownWith_9 : decode cX11_knownWith 9 = .ok (.bipush 12, 2) := by decide +kernel
theorem dX11_knownWith_11 : decode cX11_knownWith 11 = .ok (.goto 9, 3) := by decide +kernel
theorem dX11_knownWith_14 : decode cX11_knownWith 14 = .ok (.aload_n 0, 1) := by decide +kernel
theorem dX11_knownWith_15 : decode cX11_knownWith 15 = .ok (.getfield 220, 3) := by decide +kernel
theorem dX11_knownWith_18 : decode cX11_knownWith 18 = .ok (.iconst 1, 1) := by decide +kernel
theorem dX11_knownWith_19 : decode cX11_knownWith 19 = .ok (.isub, 1) := by decide +kernel
theorem dX11_knownWith_20 : decode cX11_knownWith 20 = .ok (.ireturn, 1) := by decide +kernel
theorem dX11_known_0 : decode cX11_known 0 = .ok (.aload_n 0, 1) := by decide +kernel
theorem dX11_known_1 : decode cX11_known 1 = .ok (.invokevirtual 226, 3) := by decide +kernel
theorem dX11_known_4 : decode cX11_known 4 = .ok (.aload_n 0, 1) := by decide +kernel
theorem dX11_known_5 : decode cX11_known 5 = .ok (.iconst 0, 1) := by decide +kernel
theorem dX11_known_6 : decode cX11_known 6 = .ok (.iconst 0, 1) := by decide +kernel
theorem dX11_known_7 : decode cX11_known 7 = .ok (.invokevirtual 229, 3) := by decide +kernel
theorem dX11_known_10 : decode cX11_known 10 = .ok (.ireturn, 1) := by decide +kernel
theorem dX11_pair_0 : decode cX11_pair 0 = .ok (.iload_n 1, 1) := by decide +kernel
theorem dX11_pair_1 : decode cX11_pair 1 = .ok (.iconst 0, 1) := by decide +kernel
theorem dX11_pair_2 : decode cX11_pair 2 = .ok (.iconst 1, 1) := by decide +kernel
theorem dX11_pair_3 : decode cX11_pair 3 = .ok (.invokestatic 83, 3) := by decide +kernel
theorem dX11_pair_6 : decode cX11_pair 6 = .ok (.ifCond .ne 10, 3) := by decide +kernel
theorem dX11_pair_9 : decode cX11_pair 9 = .ok (.aload_n 0, 1) := by decide +kernel
theorem dX11_pair_10 : decode cX11_pair 10 = .ok (.ldc 87, 2) := by decide +kernel
theorem dX11_pair_12 : decode cX11_pair 12 = .ok (.invokevirtual 88, 3) := by decide +kernel
theorem dX11_pair_15 : decode cX11_pair 15 = .ok (.ireturn, 1) := by decide +kernel
theorem dX11_pair_16 : decode cX11_pair 16 = .ok (.aload_n 0, 1) := by decide +kernel
theorem dX11_pair_17 : decode cX11_pair 17 = .ok (.invokevirtual 226, 3) := by decide +kernel
theorem dX11_pair_20 : decode cX11_pair 20 = .ok (.aload_n 0, 1) := by decide +kernel
theorem dX11_pair_21 : decode cX11_pair 21 = .ok (.iconst 0, 1) := by decide +kernel
theorem dX11_pair_22 : decode cX11_pair 22 = .ok (.iconst 0, 1) := by decide +kernel
theorem dX11_pair_23 : decode cX11_pair 23 = .ok (.invokevirtual 223, 3) := by decide +kernel
theorem dX11_pair_26 : decode cX11_pair 26 = .ok (.istore_n 2, 1) := by decide +kernel
theorem dX11_pair_27 : decode cX11_pair 27 = .ok (.iload_n 2, 1) := by decide +kernel
theorem dX11_pair_28 : decode cX11_pair 28 = .ok (.ifCond .ge 10, 3) := by decide +kernel
theorem dX11_pair_31 : decode cX11_pair 31 = .ok (.aload_n 0, 1) := by decide +kernel
theorem dX11_pair_32 : decode cX11_pair 32 = .ok (.ldc 219, 2) := by decide +kernel
theorem dX11_pair_34 : decode cX11_pair 34 = .ok (.invokevirtual 88, 3) := by decide +kernel
theorem dX11_pair_37 : decode cX11_pair 37 = .ok (.ireturn, 1) := by decide +kernel
theorem dX11_pair_38 : decode cX11_pair 38 = .ok (.aload_n 0, 1) := by decide +kernel
theorem dX11_pair_39 : decode cX11_pair 39 = .ok (.getfield 49, 3) := by decide +kernel
theorem dX11_pair_42 : decode cX11_pair 42 = .ok (.iload_n 2, 1) := by decide +kernel
theorem dX11_pair_43 : decode cX11_pair 43 = .ok (.iaload, 1) := by decide +kernel
theorem dX11_pair_44 : decode cX11_pair 44 = .ok (.invokestatic 202, 3) := by decide +kernel
theorem dX11_pair_47 : decode cX11_pair 47 = .ok (.iconst 1, 1) := by decide +kernel
theorem dX11_pair_48 : decode cX11_pair 48 = .ok (.iadd, 1) := by decide +kernel
theorem dX11_pair_49 : decode cX11_pair 49 = .ok (.iconst 2, 1) := by decide +kernel
theorem dX11_pair_50 : decode cX11_pair 50 = .ok (.idiv, 1) := by decide +kernel
theorem dX11_pair_51 : decode cX11_pair 51 = .ok (.istore_n 3, 1) := by decide +kernel
theorem dX11_pair_52 : decode cX11_pair 52 = .ok (.iload_n 2, 1) := by decide +kernel
theorem dX11_pair_53 : decode cX11_pair 53 = .ok (.aload_n 0, 1) := by decide +kernel
theorem dX11_pair_54 : decode cX11_pair 54 = .ok (.getfield 49, 3) := by decide +kernel
theorem dX11_pair_57 : decode cX11_pair 57 = .ok (.iload_n 2, 1) := by decide +kernel
theorem dX11_pair_58 : decode cX11_pair 58 = .ok (.iaload, 1) := by decide +kernel
theorem dX11_pair_59 : decode cX11_pair 59 = .ok (.iconst (-1), 1) := by decide +kernel
theorem dX11_pair_60 : decode cX11_pair 60 = .ok (.ixor, 1) := by decide +kernel
theorem dX11_pair_61 : decode cX11_pair 61 = .ok (.iand, 1) := by decide +kernel
theorem dX11_pair_62 : decode cX11_pair 62 = .ok (.istore 4, 2) := by decide +kernel
theorem dX11_pair_64 : decode cX11_pair 64 = .ok (.iload 4, 2) := by decide +kernel
theorem dX11_pair_66 : decode cX11_pair 66 = .ok (.istore 5, 2) := by decide +kernel
theorem dX11_pair_68 : decode cX11_pair 68 = .ok (.iconst 0, 1) := by decide +kernel
theorem dX11_pair_69 : decode cX11_pair 69 = .ok (.istore 6, 2) := by decide +kernel
theorem dX11_pair_71 : decode cX11_pair 71 = .ok (.iload 6, 2) := by decide +kernel
theorem dX11_pair_73 : decode cX11_pair 73 = .ok (.aload_n 0, 1) := by decide +kernel
theorem dX11_pair_74 : decode cX11_pair 74 = .ok (.getfield 9, 3) := by decide +kernel
theorem dX11_pair_77 : decode cX11_pair 77 = .ok (.iconst 0, 1) := by decide +kernel
theorem dX11_pair_78 : decode cX11_pair 78 = .ok (.iaload, 1) := by decide +kernel
theorem dX11_pair_79 : decode cX11_pair 79 = .ok (.if_icmp .ge 60, 3) := by decide +kernel
theorem dX11_pair_82 : decode cX11_pair 82 = .ok (.aload_n 0, 1) := by decide +kernel
theorem dX11_pair_83 : decode cX11_pair 83 = .ok (.getfield 49, 3) := by decide +kernel
theorem dX11_pair_86 : decode cX11_pair 86 = .ok (.iload_n 2, 1) := by decide +kernel
theorem dX11_pair_87 : decode cX11_pair 87 = .ok (.iaload, 1) := by decide +kernel
theorem dX11_pair_88 : decode cX11_pair 88 = .ok (.iload 6, 2) := by decide +kernel
theorem dX11_pair_90 : decode cX11_pair 90 = .ok (.invokestatic 195, 3) := by decide +kernel
theorem dX11_pair_93 : decode cX11_pair 93 = .ok (.ifCond .eq 40, 3) := by decide +kernel
theorem dX11_pair_96 : decode cX11_pair 96 = .ok (.iload 4, 2) := by decide +kernel
theorem dX11_pair_98 : decode cX11_pair 98 = .ok (.iload_n 3, 1) := by decide +kernel
theorem dX11_pair_99 : decode cX11_pair 99 = .ok (.ifCond .le 10, 3) := by decide +kernel
theorem dX11_pair_102 : decode cX11_pair 102 = .ok (.iconst 1, 1) := by decide +kernel
theorem dX11_pair_103 : decode cX11_pair 103 = .ok (.iload 6, 2) := by decide +kernel
theorem dX11_pair_105 : decode cX11_pair 105 = .ok (.ishl, 1) := by decide +kernel
theorem dX11_pair_106 : decode cX11_pair 106 = .ok (.goto 4, 3) := by decide +kernel
theorem dX11_pair_109 : decode cX11_pair 109 = .ok (.iconst 0, 1) := by decide +kernel
theorem dX11_pair_110 : decode cX11_pair 110 = .ok (.ior, 1) := by decide +kernel
theorem dX11_pair_111 : decode cX11_pair 111 = .ok (.istore 4, 2) := by decide +kernel
theorem dX11_pair_113 : decode cX11_pair 113 = .ok (.iload 5, 2) := by decide +kernel
theorem dX11_pair_115 : decode cX11_pair 115 = .ok (.iload_n 3, 1) := by decide +kernel
theorem dX11_pair_116 : decode cX11_pair 116 = .ok (.ifCond .le 7, 3) := by decide +kernel
theorem dX11_pair_119 : decode cX11_pair 119 = .ok (.iconst 0, 1) := by decide +kernel
theorem dX11_pair_120 : decode cX11_pair 120 = .ok (.goto 7, 3) := by decide +kernel
theorem dX11_pair_123 : decode cX11_pair 123 = .ok (.iconst 1, 1) := by decide +kernel
theorem dX11_pair_124 : decode cX11_pair 124 = .ok (.iload 6, 2) := by decide +kernel
theorem dX11_pair_126 : decode cX11_pair 126 = .ok (.ishl, 1) := by decide +kernel
theorem dX11_pair_127 : decode cX11_pair 127 = .ok (.ior, 1) := by decide +kernel
theorem dX11_pair_128 : decode cX11_pair 128 = .ok (.istore 5, 2) := by decide +kernel
theorem dX11_pair_130 : decode cX11_pair 130 = .ok (.iinc 3 (-1), 3) := by decide +kernel
theorem dX11_pair_133 : decode cX11_pair 133 = .ok (.iinc 6 1, 3) := by decide +kernel
theorem dX11_pair_136 : decode cX11_pair 136 = .ok (.goto (-65), 3) := by decide +kernel
theorem dX11_pair_139 : decode cX11_pair 139 = .ok (.iload_n 1, 1) := by decide +kernel
theorem dX11_pair_140 : decode cX11_pair 140 = .ok (.ifCond .ne 8, 3) := by decide +kernel
theorem dX11_pair_143 : decode cX11_pair 143 = .ok (.iload 4, 2) := by decide +kernel
theorem dX11_pair_145 : decode cX11_pair 145 = .ok (.goto 5, 3) := by decide +kernel
theorem dX11_pair_148 : decode cX11_pair 148 = .ok (.iload 5, 2) := by decide +kernel
theorem dX11_pair_150 : decode cX11_pair 150 = .ok (.ireturn, 1) := by decide +kernel
theorem dX11_more_0 : decode cX11_more 0 = .ok (.aload_n 0, 1) := by decide +kernel
theorem dX11_more_1 : decode cX11_more 1 = .ok (.invokevirtual 226, 3) := by decide +kernel
theorem dX11_more_4 : decode cX11_more 4 = .ok (.iconst (-1), 1) := by decide +kernel
theorem dX11_more_5 : decode cX11_more 5 = .ok (.istore_n 1, 1) := by decide +kernel
theorem dX11_more_6 : decode cX11_more 6 = .ok (.iconst 0, 1) := by decide +kernel
theorem dX11_more_7 : decode cX11_more 7 = .ok (.istore_n 2, 1) := by decide +kernel
theorem dX11_more_8 : decode cX11_more 8 = .ok (.iconst 0, 1) := by decide +kernel
theorem dX11_more_9 : decode cX11_more 9 = .ok (.istore_n 3, 1) := by decide +kernel
theorem dX11_more_10 : decode cX11_more 10 = .ok (.iload_n 3, 1) := by decide +kernel
theorem dX11_more_11 : decode cX11_more 11 = .ok (.aload_n 0, 1) := by decide +kernel
theorem dX11_more_12 : decode cX11_more 12 = .ok (.getfield 9, 3) := by decide +kernel
theorem dX11_more_15 : decode cX11_more 15 = .ok (.iconst 0, 1) := by decide +kernel
theorem dX11_more_16 : decode cX11_more 16 = .ok (.iaload, 1) := by decide +kernel
theorem dX11_more_17 : decode cX11_more 17 = .ok (.if_icmp .ge 84, 3) := by decide +kernel
theorem dX11_more_20 : decode cX11_more 20 = .ok (.iconst 0, 1) := by decide +kernel
theorem dX11_more_21 : decode cX11_more 21 = .ok (.istore 4, 2) := by decide +kernel
theorem dX11_more_23 : decode cX11_more 23 = .ok (.iload 4, 2) := by decide +kernel
theorem dX11_more_25 : decode cX11_more 25 = .ok (.aload_n 0, 1) := by decide +kernel
theorem dX11_more_26 : decode cX11_more 26 = .ok (.getfield 9, 3) := by decide +kernel
theorem dX11_more_29 : decode cX11_more 29 = .ok (.iconst 0, 1) := by decide +kernel
theorem dX11_more_30 : decode cX11_more 30 = .ok (.iaload, 1) := by decide +kernel
theorem dX11_more_31 : decode cX11_more 31 = .ok (.if_icmp .ge 64, 3) := by decide +kernel
theorem dX11_more_34 : decode cX11_more 34 = .ok (.iload_n 3, 1) := by decide +kernel
theorem dX11_more_35 : decode cX11_more 35 = .ok (.iload 4, 2) := by decide +kernel
theorem dX11_more_37 : decode cX11_more 37 = .ok (.if_icmp .eq 13, 3) := by decide +kernel
theorem dX11_more_40 : decode cX11_more 40 = .ok (.aload_n 0, 1) := by decide +kernel
theorem dX11_more_41 : decode cX11_more 41 = .ok (.iload_n 3, 1) := by decide +kernel
theorem dX11_more_42 : decode cX11_more 42 = .ok (.iload 4, 2) := by decide +kernel
theorem dX11_more_44 : decode cX11_more 44 = .ok (.invokevirtual 108, 3) := by decide +kernel
theorem dX11_more_47 : decode cX11_more 47 = .ok (.ifCond .le 7, 3) := by decide +kernel
theorem dX11_more_50 : decode cX11_more 50 = .ok (.iconst (-1), 1) := by decide +kernel
theorem dX11_more_51 : decode cX11_more 51 = .ok (.goto 10, 3) := by decide +kernel
theorem dX11_more_54 : decode cX11_more 54 = .ok (.aload_n 0, 1) := by decide +kernel
theorem dX11_more_55 : decode cX11_more 55 = .ok (.iload_n 3, 1) := by decide +kernel
theorem dX11_more_56 : decode cX11_more 56 = .ok (.iload 4, 2) := by decide +kernel
theorem dX11_more_58 : decode cX11_more 58 = .ok (.invokevirtual 229, 3) := by decide +kernel
theorem dX11_more_61 : decode cX11_more 61 = .ok (.istore 5, 2) := by decide +kernel
theorem dX11_more_63 : decode cX11_more 63 = .ok (.iload 5, 2) := by decide +kernel
theorem dX11_more_65 : decode cX11_more 65 = .ok (.ifCond .lt 24, 3) := by decide +kernel
theorem dX11_more_68 : decode cX11_more 68 = .ok (.iload_n 1, 1) := by decide +kernel
theorem dX11_more_69 : decode cX11_more 69 = .ok (.ifCond .lt 9, 3) := by decide +kernel
theorem dX11_more_72 : decode cX11_more 72 = .ok (.iload 5, 2) := by decide +kernel
theorem dX11_more_74 : decode cX11_more 74 = .ok (.iload_n 2, 1) := by decide +kernel
theorem dX11_more_75 : decode cX11_more 75 = .ok (.if_icmp .le 14, 3) := by decide +kernel
theorem dX11_more_78 : decode cX11_more 78 = .ok (.bipush 100, 2) := by decide +kernel
theorem dX11_more_80 : decode cX11_more 80 = .ok (.iload_n 3, 1) := by decide +kernel
theorem dX11_more_81 : decode cX11_more 81 = .ok (.imul, 1) := by decide +kernel
theorem dX11_more_82 : decode cX11_more 82 = .ok (.iload 4, 2) := by decide +kernel
theorem dX11_more_84 : decode cX11_more 84 = .ok (.iadd, 1) := by decide +kernel
theorem dX11_more_85 : decode cX11_more 85 = .ok (.istore_n 1, 1) := by decide +kernel
theorem dX11_more_86 : decode cX11_more 86 = .ok (.iload 5, 2) := by decide +kernel
theorem dX11_more_88 : decode cX11_more 88 = .ok (.istore_n 2, 1) := by decide +kernel
theorem dX11_more_89 : decode cX11_more 89 = .ok (.iinc 4 1, 3) := by decide +kernel
theorem dX11_more_92 : decode cX11_more 92 = .ok (.goto (-69), 3) := by decide +kernel
theorem dX11_more_95 : decode cX11_more 95 = .ok (.iinc 3 1, 3) := by decide +kernel
theorem dX11_more_98 : decode cX11_more 98 = .ok (.goto (-88), 3) := by decide +kernel
theorem dX11_more_101 : decode cX11_more 101 = .ok (.iload_n 1, 1) := by decide +kernel
theorem dX11_more_102 : decode cX11_more 102 = .ok (.ifCond .ge 12, 3) := by decide +kernel
theorem dX11_more_105 : decode cX11_more 105 = .ok (.aload_n 0, 1) := by decide +kernel
theorem dX11_more_106 : decode cX11_more 106 = .ok (.ldc 219, 2) := by decide +kernel
theorem dX11_more_108 : decode cX11_more 108 = .ok (.invokevirtual 88, 3) := by decide +kernel
theorem dX11_more_111 : decode cX11_more 111 = .ok (.goto 4, 3) := by decide +kernel
theorem dX11_more_114 : decode cX11_more 114 = .ok (.iload_n 1, 1) := by decide +kernel
theorem dX11_more_115 : decode cX11_more 115 = .ok (.ireturn, 1) := by decide +kernel
theorem dX11_without_0 : decode cX11_without 0 = .ok (.aload_n 0, 1) := by decide +kernel
theorem dX11_without_1 : decode cX11_without 1 = .ok (.iload_n 1, 1) := by decide +kernel
theorem dX11_without_2 : decode cX11_without 2 = .ok (.iload_n 2, 1) := by decide +kernel
theorem dX11_without_3 : decode cX11_without 3 = .ok (.invokevirtual 119, 3) := by decide +kernel
theorem dX11_without_6 : decode cX11_without 6 = .ok (.ifCond .ne 10, 3) := by decide +kernel
theorem dX11_without_9 : decode cX11_without 9 = .ok (.aload_n 0, 1) := by decide +kernel
theorem dX11_without_10 : decode cX11_without 10 = .ok (.ldc 87, 2) := by decide +kernel
theorem dX11_without_12 : decode cX11_without 12 = .ok (.invokevirtual 88, 3) := by decide +kernel
theorem dX11_without_15 : decode cX11_without 15 = .ok (.ireturn, 1) := by decide +kernel
theorem dX11_without_16 : decode cX11_without 16 = .ok (.aload_n 0, 1) := by decide +kernel
theorem dX11_without_17 : decode cX11_without 17 = .ok (.iload_n 1, 1) := by decide +kernel
theorem dX11_without_18 : decode cX11_without 18 = .ok (.iload_n 2, 1) := by decide +kernel
theorem dX11_without_19 : decode cX11_without 19 = .ok (.invokevirtual 108, 3) := by decide +kernel
theorem dX11_without_22 : decode cX11_without 22 = .ok (.istore_n 3, 1) := by decide +kernel
theorem dX11_without_23 : decode cX11_without 23 = .ok (.iload_n 3, 1) := by decide +kernel
theorem dX11_without_24 : decode cX11_without 24 = .ok (.ifCond .ne 10, 3) := by decide +kernel
theorem dX11_without_27 : decode cX11_without 27 = .ok (.aload_n 0, 1) := by decide +kernel
theorem dX11_without_28 : decode cX11_without 28 = .ok (.ldc 122, 2) := by decide +kernel
theorem dX11_without_30 : decode cX11_without 30 = .ok (.invokevirtual 88, 3) := by decide +kernel
theorem dX11_without_33 : decode cX11_without 33 = .ok (.ireturn, 1) := by decide +kernel
theorem dX11_without_34 : decode cX11_without 34 = .ok (.aload_n 0, 1) := by decide +kernel
theorem dX11_without_35 : decode cX11_without 35 = .ok (.getfield 9, 3) := by decide +kernel
theorem dX11_without_38 : decode cX11_without 38 = .ok (.bipush 41, 2) := by decide +kernel
theorem dX11_without_40 : decode cX11_without 40 = .ok (.bipush 12, 2) := by decide +kernel
theorem dX11_without_42 : decode cX11_without 42 = .ok (.iload_n 1, 1) := by decide +kernel
theorem dX11_without_43 : decode cX11_without 43 = .ok (.imul, 1) := by decide +kernel
theorem dX11_without_44 : decode cX11_without 44 = .ok (.iadd, 1) := by decide +kernel
theorem dX11_without_45 : decode cX11_without 45 = .ok (.iload_n 2, 1) := by decide +kernel
theorem dX11_without_46 : decode cX11_without 46 = .ok (.iadd, 1) := by decide +kernel
theorem dX11_without_47 : decode cX11_without 47 = .ok (.iconst 0, 1) := by decide +kernel
theorem dX11_without_48 : decode cX11_without 48 = .ok (.iastore, 1) := by decide +kernel
theorem dX11_without_49 : decode cX11_without 49 = .ok (.aload_n 0, 1) := by decide +kernel
theorem dX11_without_50 : decode cX11_without 50 = .ok (.invokevirtual 226, 3) := by decide +kernel
theorem dX11_without_53 : decode cX11_without 53 = .ok (.aload_n 0, 1) := by decide +kernel
theorem dX11_without_54 : decode cX11_without 54 = .ok (.getfield 9, 3) := by decide +kernel
theorem dX11_without_57 : decode cX11_without 57 = .ok (.bipush 41, 2) := by decide +kernel
theorem dX11_without_59 : decode cX11_without 59 = .ok (.bipush 12, 2) := by decide +kernel
theorem dX11_without_61 : decode cX11_without 61 = .ok (.iload_n 1, 1) := by decide +kernel
theorem dX11_without_62 : decode cX11_without 62 = .ok (.imul, 1) := by decide +kernel
theorem dX11_without_63 : decode cX11_without 63 = .ok (.iadd, 1) := by decide +kernel
theorem dX11_without_64 : decode cX11_without 64 = .ok (.iload_n 2, 1) := by decide +kernel
theorem dX11_without_65 : decode cX11_without 65 = .ok (.iadd, 1) := by decide +kernel
theorem dX11_without_66 : decode cX11_without 66 = .ok (.iload_n 3, 1) := by decide +kernel
theorem dX11_without_67 : decode cX11_without 67 = .ok (.iastore, 1) := by decide +kernel
theorem dX11_without_68 : decode cX11_without 68 = .ok (.aload_n 0, 1) := by decide +kernel
theorem dX11_without_69 : decode cX11_without 69 = .ok (.iconst 0, 1) := by decide +kernel
theorem dX11_without_70 : decode cX11_without 70 = .ok (.iconst 0, 1) := by decide +kernel
theorem dX11_without_71 : decode cX11_without 71 = .ok (.invokevirtual 229, 3) := by decide +kernel
theorem dX11_without_74 : decode cX11_without 74 = .ok (.ireturn, 1) := by decide +kernel
theorem dX11_letting_0 : decode cX11_letting 0 = .ok (.iconst 0, 1) := by decide +kernel
theorem dX11_letting_1 : decode cX11_letting 1 = .ok (.istore 4, 2) := by decide +kernel
theorem dX11_letting_3 : decode cX11_letting 3 = .ok (.iconst 0, 1) := by decide +kernel
theorem dX11_letting_4 : decode cX11_letting 4 = .ok (.istore 5, 2) := by decide +kernel
theorem dX11_letting_6 : decode cX11_letting 6 = .ok (.iload 5, 2) := by decide +kernel
theorem dX11_letting_8 : decode cX11_letting 8 = .ok (.aload_n 0, 1) := by decide +kernel
theorem dX11_letting_9 : decode cX11_letting 9 = .ok (.getfield 213, 3) := by decide +kernel
theorem dX11_letting_12 : decode cX11_letting 12 = .ok (.if_icmp .ge 36, 3) := by decide +kernel
theorem dX11_letting_15 : decode cX11_letting 15 = .ok (.iload 4, 2) := by decide +kernel
theorem dX11_letting_17 : decode cX11_letting 17 = .ok (.aload_n 0, 1) := by decide +kernel
theorem dX11_letting_18 : decode cX11_letting 18 = .ok (.aload_n 0, 1) := by decide +kernel
theorem dX11_letting_19 : decode cX11_letting 19 = .ok (.getfield 40, 3) := by decide +kernel
theorem dX11_letting_22 : decode cX11_letting 22 = .ok (.iload 5, 2) := by decide +kernel
theorem dX11_letting_24 : decode cX11_letting 24 = .ok (.iaload, 1) := by decide +kernel
theorem dX11_letting_25 : decode cX11_letting 25 = .ok (.iload_n 1, 1) := by decide +kernel
theorem dX11_letting_26 : decode cX11_letting 26 = .ok (.iload_n 2, 1) := by decide +kernel
theorem dX11_letting_27 : decode cX11_letting 27 = .ok (.iload_n 3, 1) := by decide +kernel
theorem dX11_letting_28 : decode cX11_letting 28 = .ok (.invokevirtual 198, 3) := by decide +kernel
theorem dX11_letting_31 : decode cX11_letting 31 = .ok (.ifCond .eq 7, 3) := by decide +kernel
theorem dX11_letting_34 : decode cX11_letting 34 = .ok (.iconst 1, 1) := by decide +kernel
theorem dX11_letting_35 : decode cX11_letting 35 = .ok (.goto 4, 3) := by decide +kernel
theorem dX11_letting_38 : decode cX11_letting 38 = .ok (.iconst 0, 1) := by decide +kernel
theorem dX11_letting_39 : decode cX11_letting 39 = .ok (.iadd, 1) := by decide +kernel
theorem dX11_letting_40 : decode cX11_letting 40 = .ok (.istore 4, 2) := by decide +kernel
theorem dX11_letting_42 : decode cX11_letting 42 = .ok (.iinc 5 1, 3) := by decide +kernel
theorem dX11_letting_45 : decode cX11_letting 45 = .ok (.goto (-39), 3) := by decide +kernel
theorem dX11_letting_48 : decode cX11_letting 48 = .ok (.iload 4, 2) := by decide +kernel
theorem dX11_letting_50 : decode cX11_letting 50 = .ok (.ireturn, 1) := by decide +kernel
theorem dX11_next_0 : decode cX11_next 0 = .ok (.iload_n 1, 1) := by decide +kernel
theorem dX11_next_1 : decode cX11_next 1 = .ok (.iconst 0, 1) := by decide +kernel
theorem dX11_next_2 : decode cX11_next 2 = .ok (.iconst 1, 1) := by decide +kernel
theorem dX11_next_3 : decode cX11_next 3 = .ok (.invokestatic 83, 3) := by decide +kernel
theorem dX11_next_6 : decode cX11_next 6 = .ok (.ifCond .ne 10, 3) := by decide +kernel
theorem dX11_next_9 : decode cX11_next 9 = .ok (.aload_n 0, 1) := by decide +kernel
theorem dX11_next_10 : decode cX11_next 10 = .ok (.ldc 87, 2) := by decide +kernel
theorem dX11_next_12 : decode cX11_next 12 = .ok (.invokevirtual 88, 3) := by decide +kernel
theorem dX11_next_15 : decode cX11_next 15 = .ok (.ireturn, 1) := by decide +kernel
theorem dX11_next_16 : decode cX11_next 16 = .ok (.aload_n 0, 1) := by decide +kernel
theorem dX11_next_17 : decode cX11_next 17 = .ok (.invokevirtual 216, 3) := by decide +kernel
theorem dX11_next_20 : decode cX11_next 20 = .ok (.iconst (-1), 1) := by decide +kernel
theorem dX11_next_21 : decode cX11_next 21 = .ok (.istore_n 2, 1) := by decide +kernel
theorem dX11_next_22 : decode cX11_next 22 = .ok (.iconst 0, 1) := by decide +kernel
theorem dX11_next_23 : decode cX11_next 23 = .ok (.istore_n 3, 1) := by decide +kernel
theorem dX11_next_24 : decode cX11_next 24 = .ok (.iconst 0, 1) := by decide +kernel
theorem dX11_next_25 : decode cX11_next 25 = .ok (.istore 4, 2) := by decide +kernel
theorem dX11_next_27 : decode cX11_next 27 = .ok (.iconst 0, 1) := by decide +kernel
theorem dX11_next_28 : decode cX11_next 28 = .ok (.istore 5, 2) := by decide +kernel
theorem dX11_next_30 : decode cX11_next 30 = .ok (.iload 5, 2) := by decide +kernel
theorem dX11_next_32 : decode cX11_next 32 = .ok (.aload_n 0, 1) := by decide +kernel
theorem dX11_next_33 : decode cX11_next 33 = .ok (.getfield 9, 3) := by decide +kernel
theorem dX11_next_36 : decode cX11_next 36 = .ok (.iconst 0, 1) := by decide +kernel
theorem dX11_next_37 : decode cX11_next 37 = .ok (.iaload, 1) := by decide +kernel
theorem dX11_next_38 : decode cX11_next 38 = .ok (.if_icmp .ge 115, 3) := by decide +kernel
theorem dX11_next_41 : decode cX11_next 41 = .ok (.iconst 0, 1) := by decide +kernel
theorem dX11_next_42 : decode cX11_next 42 = .ok (.istore 6, 2) := by decide +kernel
theorem dX11_next_44 : decode cX11_next 44 = .ok (.iload 6, 2) := by decide +kernel
theorem dX11_next_46 : decode cX11_next 46 = .ok (.aload_n 0, 1) := by decide +kernel
theorem dX11_next_47 : decode cX11_next 47 = .ok (.getfield 9, 3) := by decide +kernel
theorem dX11_next_50 : decode cX11_next 50 = .ok (.iconst 0, 1) := by decide +kernel
theorem dX11_next_51 : decode cX11_next 51 = .ok (.iaload, 1) := by decide +kernel
theorem dX11_next_52 : decode cX11_next 52 = .ok (.if_icmp .ge 95, 3) := by decide +kernel
theorem dX11_next_55 : decode cX11_next 55 = .ok (.aload_n 0, 1) := by decide +kernel
theorem dX11_next_56 : decode cX11_next 56 = .ok (.iload 5, 2) := by decide +kernel
theorem dX11_next_58 : decode cX11_next 58 = .ok (.iload 6, 2) := by decide +kernel
theorem dX11_next_60 : decode cX11_next 60 = .ok (.invokevirtual 108, 3) := by decide +kernel
theorem dX11_next_63 : decode cX11_next 63 = .ok (.istore 7, 2) := by decide +kernel
theorem dX11_next_65 : decode cX11_next 65 = .ok (.iload 7, 2) := by decide +kernel
theorem dX11_next_67 : decode cX11_next 67 = .ok (.ifCond .ne 7, 3) := by decide +kernel
theorem dX11_next_70 : decode cX11_next 70 = .ok (.iconst 0, 1) := by decide +kernel
theorem dX11_next_71 : decode cX11_next 71 = .ok (.goto 24, 3) := by decide +kernel
theorem dX11_next_74 : decode cX11_next 74 = .ok (.aload_n 0, 1) := by decide +kernel
theorem dX11_next_75 : decode cX11_next 75 = .ok (.iload 5, 2) := by decide +kernel
theorem dX11_next_77 : decode cX11_next 77 = .ok (.iload 6, 2) := by decide +kernel
theorem dX11_next_79 : decode cX11_next 79 = .ok (.iconst 1, 1) := by decide +kernel
theorem dX11_next_80 : decode cX11_next 80 = .ok (.invokevirtual 232, 3) := by decide +kernel
theorem dX11_next_83 : decode cX11_next 83 = .ok (.aload_n 0, 1) := by decide +kernel
theorem dX11_next_84 : decode cX11_next 84 = .ok (.iload 5, 2) := by decide +kernel
theorem dX11_next_86 : decode cX11_next 86 = .ok (.iload 6, 2) := by decide +kernel
theorem dX11_next_88 : decode cX11_next 88 = .ok (.iconst 0, 1) := by decide +kernel
theorem dX11_next_89 : decode cX11_next 89 = .ok (.invokevirtual 232, 3) := by decide +kernel
theorem dX11_next_92 : decode cX11_next 92 = .ok (.invokestatic 236, 3) := by decide +kernel
theorem dX11_next_95 : decode cX11_next 95 = .ok (.istore 8, 2) := by decide +kernel
theorem dX11_next_97 : decode cX11_next 97 = .ok (.iload 7, 2) := by decide +kernel
theorem dX11_next_99 : decode cX11_next 99 = .ok (.ifCond .le 42, 3) := by decide +kernel
theorem dX11_next_102 : decode cX11_next 102 = .ok (.iload_n 2, 1) := by decide +kernel
theorem dX11_next_103 : decode cX11_next 103 = .ok (.ifCond .lt 22, 3) := by decide +kernel
theorem dX11_next_106 : decode cX11_next 106 = .ok (.iload 8, 2) := by decide +kernel
theorem dX11_next_108 : decode cX11_next 108 = .ok (.iload_n 3, 1) := by decide +kernel
theorem dX11_next_109 : decode cX11_next 109 = .ok (.if_icmp .lt 16, 3) := by decide +kernel
theorem dX11_next_112 : decode cX11_next 112 = .ok (.iload 8, 2) := by decide +kernel
theorem dX11_next_114 : decode cX11_next 114 = .ok (.iload_n 3, 1) := by decide +kernel
theorem dX11_next_115 : decode cX11_next 115 = .ok (.if_icmp .ne 26, 3) := by decide +kernel
theorem dX11_next_118 : decode cX11_next 118 = .ok (.iload 7, 2) := by decide +kernel
theorem dX11_next_120 : decode cX11_next 120 = .ok (.iload 4, 2) := by decide +kernel
theorem dX11_next_122 : decode cX11_next 122 = .ok (.if_icmp .ge 19, 3) := by decide +kernel
theorem dX11_next_125 : decode cX11_next 125 = .ok (.bipush 100, 2) := by decide +kernel
theorem dX11_next_127 : decode cX11_next 127 = .ok (.iload 5, 2) := by decide +kernel
theorem dX11_next_129 : decode cX11_next 129 = .ok (.imul, 1) := by decide +kernel
theorem dX11_next_130 : decode cX11_next 130 = .ok (.iload 6, 2) := by decide +kernel
theorem dX11_next_132 : decode cX11_next 132 = .ok (.iadd, 1) := by decide +kernel
theorem dX11_next_133 : decode cX11_next 133 = .ok (.istore_n 2, 1) := by decide +kernel
theorem dX11_next_134 : decode cX11_next 134 = .ok (.iload 8, 2) := by decide +kernel
theorem dX11_next_136 : decode cX11_next 136 = .ok (.istore_n 3, 1) := by decide +kernel
theorem dX11_next_137 : decode cX11_next 137 = .ok (.iload 7, 2) := by decide +kernel
theorem dX11_next_139 : decode cX11_next 139 = .ok (.istore 4, 2) := by decide +kernel
theorem dX11_next_141 : decode cX11_next 141 = .ok (.iinc 6 1, 3) := by decide +kernel
theorem dX11_next_144 : decode cX11_next 144 = .ok (.goto (-100), 3) := by decide +kernel
theorem dX11_next_147 : decode cX11_next 147 = .ok (.iinc 5 1, 3) := by decide +kernel
theorem dX11_next_150 : decode cX11_next 150 = .ok (.goto (-120), 3) := by decide +kernel
theorem dX11_next_153 : decode cX11_next 153 = .ok (.iload_n 2, 1) := by decide +kernel
theorem dX11_next_154 : decode cX11_next 154 = .ok (.ifCond .ge 12, 3) := by decide +kernel
theorem dX11_next_157 : decode cX11_next 157 = .ok (.aload_n 0, 1) := by decide +kernel
theorem dX11_next_158 : decode cX11_next 158 = .ok (.ldc 219, 2) := by decide +kernel
theorem dX11_next_160 : decode cX11_next 160 = .ok (.invokevirtual 88, 3) := by decide +kernel
theorem dX11_next_163 : decode cX11_next 163 = .ok (.goto 12, 3) := by decide +kernel
theorem dX11_next_166 : decode cX11_next 166 = .ok (.iload_n 1, 1) := by decide +kernel
theorem dX11_next_167 : decode cX11_next 167 = .ok (.ifCond .ne 7, 3) := by decide +kernel
theorem dX11_next_170 : decode cX11_next 170 = .ok (.iload_n 2, 1) := by decide +kernel
theorem dX11_next_171 : decode cX11_next 171 = .ok (.goto 4, 3) := by decide +kernel
theorem dX11_next_174 : decode cX11_next 174 = .ok (.iload_n 3, 1) := by decide +kernel
theorem dX11_next_175 : decode cX11_next 175 = .ok (.ireturn, 1) := by decide +kernel
theorem dX11_tieMany_0 : decode cX11_tieMany 0 = .ok (.iconst 0, 1) := by decide +kernel
theorem dX11_tieMany_1 : decode cX11_tieMany 1 = .ok (.istore_n 1, 1) := by decide +kernel
theorem dX11_tieMany_2 : decode cX11_tieMany 2 = .ok (.iconst 0, 1) := by decide +kernel
theorem dX11_tieMany_3 : decode cX11_tieMany 3 = .ok (.istore_n 2, 1) := by decide +kernel
theorem dX11_tieMany_4 : decode cX11_tieMany 4 = .ok (.iload_n 2, 1) := by decide +kernel
theorem dX11_tieMany_5 : decode cX11_tieMany 5 = .ok (.sipush 144, 3) := by decide +kernel
theorem dX11_tieMany_8 : decode cX11_tieMany 8 = .ok (.if_icmp .ge 29, 3) := by decide +kernel
theorem dX11_tieMany_11 : decode cX11_tieMany 11 = .ok (.iload_n 1, 1) := by decide +kernel
theorem dX11_tieMany_12 : decode cX11_tieMany 12 = .ok (.aload_n 0, 1) := by decide +kernel
theorem dX11_tieMany_13 : decode cX11_tieMany 13 = .ok (.getfield 9, 3) := by decide +kernel
theorem dX11_tieMany_16 : decode cX11_tieMany 16 = .ok (.bipush 41, 2) := by decide +kernel
theorem dX11_tieMany_18 : decode cX11_tieMany 18 = .ok (.iload_n 2, 1) := by decide +kernel
theorem dX11_tieMany_19 : decode cX11_tieMany 19 = .ok (.iadd, 1) := by decide +kernel
theorem dX11_tieMany_20 : decode cX11_tieMany 20 = .ok (.iaload, 1) := by decide +kernel
theorem dX11_tieMany_21 : decode cX11_tieMany 21 = .ok (.ifCond .le 7, 3) := by decide +kernel
theorem dX11_tieMany_24 : decode cX11_tieMany 24 = .ok (.iconst 1, 1) := by decide +kernel
theorem dX11_tieMany_25 : decode cX11_tieMany 25 = .ok (.goto 4, 3) := by decide +kernel
theorem dX11_tieMany_28 : decode cX11_tieMany 28 = .ok (.iconst 0, 1) := by decide +kernel
theorem dX11_tieMany_29 : decode cX11_tieMany 29 = .ok (.iadd, 1) := by decide +kernel
theorem dX11_tieMany_30 : decode cX11_tieMany 30 = .ok (.istore_n 1, 1) := by decide +kernel
theorem dX11_tieMany_31 : decode cX11_tieMany 31 = .ok (.iinc 2 1, 3) := by decide +kernel
theorem dX11_tieMany_34 : decode cX11_tieMany 34 = .ok (.goto (-30), 3) := by decide +kernel
theorem dX11_tieMany_37 : decode cX11_tieMany 37 = .ok (.iload_n 1, 1) := by decide +kernel
theorem dX11_tieMany_38 : decode cX11_tieMany 38 = .ok (.ireturn, 1) := by decide +kernel
theorem dX11_does_0 : decode cX11_does 0 = .ok (.aload_n 0, 1) := by decide +kernel
theorem dX11_does_1 : decode cX11_does 1 = .ok (.getfield 55, 3) := by decide +kernel
theorem dX11_does_4 : decode cX11_does 4 = .ok (.iload_n 1, 1) := by decide +kernel
theorem dX11_does_5 : decode cX11_does 5 = .ok (.iaload, 1) := by decide +kernel
theorem dX11_does_6 : decode cX11_does 6 = .ok (.iconst 2, 1) := by decide +kernel
theorem dX11_does_7 : decode cX11_does 7 = .ok (.if_icmp .ge 5, 3) := by decide +kernel
theorem dX11_does_10 : decode cX11_does 10 = .ok (.iconst 1, 1) := by decide +kernel
theorem dX11_does_11 : decode cX11_does 11 = .ok (.ireturn, 1) := by decide +kernel
theorem dX11_does_12 : decode cX11_does 12 = .ok (.iconst 0, 1) := by decide +kernel
theorem dX11_does_13 : decode cX11_does 13 = .ok (.istore_n 3, 1) := by decide +kernel
theorem dX11_does_14 : decode cX11_does 14 = .ok (.iconst 0, 1) := by decide +kernel
theorem dX11_does_15 : decode cX11_does 15 = .ok (.istore 4, 2) := by decide +kernel
theorem dX11_does_17 : decode cX11_does 17 = .ok (.iload 4, 2) := by decide +kernel
theorem dX11_does_19 : decode cX11_does 19 = .ok (.sipush 144, 3) := by decide +kernel
theorem dX11_does_22 : decode cX11_does 22 = .ok (.if_icmp .ge 76, 3) := by decide +kernel
theorem dX11_does_25 : decode cX11_does 25 = .ok (.iload_n 2, 1) := by decide +kernel
theorem dX11_does_26 : decode cX11_does 26 = .ok (.ifCond .le 72, 3) := by decide +kernel
theorem dX11_does_29 : decode cX11_does 29 = .ok (.iload_n 3, 1) := by decide +kernel
theorem dX11_does_30 : decode cX11_does 30 = .ok (.ifCond .ne 68, 3) := by decide +kernel
theorem dX11_does_33 : decode cX11_does 33 = .ok (.aload_n 0, 1) := by decide +kernel
theorem dX11_does_34 : decode cX11_does 34 = .ok (.getfield 9, 3) := by decide +kernel
theorem dX11_does_37 : decode cX11_does 37 = .ok (.bipush 41, 2) := by decide +kernel
theorem dX11_does_39 : decode cX11_does 39 = .ok (.iload 4, 2) := by decide +kernel
theorem dX11_does_41 : decode cX11_does 41 = .ok (.iadd, 1) := by decide +kernel
theorem dX11_does_42 : decode cX11_does 42 = .ok (.iaload, 1) := by decide +kernel
theorem dX11_does_43 : decode cX11_does 43 = .ok (.ifCond .le 47, 3) := by decide +kernel
theorem dX11_does_46 : decode cX11_does 46 = .ok (.aload_n 0, 1) := by decide +kernel
theorem dX11_does_47 : decode cX11_does 47 = .ok (.iload_n 1, 1) := by decide +kernel
theorem dX11_does_48 : decode cX11_does 48 = .ok (.iload 4, 2) := by decide +kernel
theorem dX11_does_50 : decode cX11_does 50 = .ok (.bipush 12, 2) := by decide +kernel
theorem dX11_does_52 : decode cX11_does 52 = .ok (.idiv, 1) := by decide +kernel
theorem dX11_does_53 : decode cX11_does 53 = .ok (.iload 4, 2) := by decide +kernel
theorem dX11_does_55 : decode cX11_does 55 = .ok (.bipush 12, 2) := by decide +kernel
theorem dX11_does_57 : decode cX11_does 57 = .ok (.irem, 1) := by decide +kernel
theorem dX11_does_58 : decode cX11_does 58 = .ok (.iconst 1, 1) := by decide +kernel
theorem dX11_does_59 : decode cX11_does 59 = .ok (.iload_n 2, 1) := by decide +kernel
theorem dX11_does_60 : decode cX11_does 60 = .ok (.invokevirtual 241, 3) := by decide +kernel
theorem dX11_does_63 : decode cX11_does 63 = .ok (.ifCond .eq 27, 3) := by decide +kernel
theorem dX11_does_66 : decode cX11_does 66 = .ok (.aload_n 0, 1) := by decide +kernel
theorem dX11_does_67 : decode cX11_does 67 = .ok (.iload_n 1, 1) := by decide +kernel
theorem dX11_does_68 : decode cX11_does 68 = .ok (.iload 4, 2) := by decide +kernel
theorem dX11_does_70 : decode cX11_does 70 = .ok (.bipush 12, 2) := by decide +kernel
theorem dX11_does_72 : decode cX11_does 72 = .ok (.idiv, 1) := by decide +kernel
theorem dX11_does_73 : decode cX11_does 73 = .ok (.iload 4, 2) := by decide +kernel
theorem dX11_does_75 : decode cX11_does 75 = .ok (.bipush 12, 2) := by decide +kernel
theorem dX11_does_77 : decode cX11_does 77 = .ok (.irem, 1) := by decide +kernel
theorem dX11_does_78 : decode cX11_does 78 = .ok (.iconst 0, 1) := by decide +kernel
theorem dX11_does_79 : decode cX11_does 79 = .ok (.iload_n 2, 1) := by decide +kernel
theorem dX11_does_80 : decode cX11_does 80 = .ok (.invokevirtual 241, 3) := by decide +kernel
theorem dX11_does_83 : decode cX11_does 83 = .ok (.ifCond .eq 7, 3) := by decide +kernel
theorem dX11_does_86 : decode cX11_does 86 = .ok (.iconst 1, 1) := by decide +kernel
theorem dX11_does_87 : decode cX11_does 87 = .ok (.goto 4, 3) := by decide +kernel
theorem dX11_does_90 : decode cX11_does 90 = .ok (.iconst 0, 1) := by decide +kernel
theorem dX11_does_91 : decode cX11_does 91 = .ok (.istore_n 3, 1) := by decide +kernel
theorem dX11_does_92 : decode cX11_does 92 = .ok (.iinc 4 1, 3) := by decide +kernel
theorem dX11_does_95 : decode cX11_does 95 = .ok (.goto (-78), 3) := by decide +kernel
theorem dX11_does_98 : decode cX11_does 98 = .ok (.iload_n 3, 1) := by decide +kernel
theorem dX11_does_99 : decode cX11_does 99 = .ok (.ireturn, 1) := by decide +kernel
theorem dX11_doesWith_0 : decode cX11_doesWith 0 = .ok (.aload_n 0, 1) := by decide +kernel
theorem dX11_doesWith_1 : decode cX11_doesWith 1 = .ok (.getfield 55, 3) := by decide +kernel
theorem dX11_doesWith_4 : decode cX11_doesWith 4 = .ok (.iload_n 1, 1) := by decide +kernel
theorem dX11_doesWith_5 : decode cX11_doesWith 5 = .ok (.iconst 1, 1) := by decide +kernel
theorem dX11_doesWith_6 : decode cX11_doesWith 6 = .ok (.iadd, 1) := by decide +kernel
theorem dX11_doesWith_7 : decode cX11_doesWith 7 = .ok (.iconst 0, 1) := by decide +kernel
theorem dX11_doesWith_8 : decode cX11_doesWith 8 = .ok (.iastore, 1) := by decide +kernel
theorem dX11_doesWith_9 : decode cX11_doesWith 9 = .ok (.iconst 0, 1) := by decide +kernel
theorem dX11_doesWith_10 : decode cX11_doesWith 10 = .ok (.istore 6, 2) := by decide +kernel
theorem dX11_doesWith_12 : decode cX11_doesWith 12 = .ok (.iload 6, 2) := by decide +kernel
theorem dX11_doesWith_14 : decode cX11_doesWith 14 = .ok (.aload_n 0, 1) := by decide +kernel
theorem dX11_doesWith_15 : decode cX11_doesWith 15 = .ok (.getfield 55, 3) := by decide +kernel
theorem dX11_doesWith_18 : decode cX11_doesWith 18 = .ok (.iload_n 1, 1) := by decide +kernel
theorem dX11_doesWith_19 : decode cX11_doesWith 19 = .ok (.iaload, 1) := by decide +kernel
theorem dX11_doesWith_20 : decode cX11_doesWith 20 = .ok (.if_icmp .ge 79, 3) := by decide +kernel
theorem dX11_doesWith_23 : decode cX11_doesWith 23 = .ok (.aload_n 0, 1) := by decide +kernel
theorem dX11_doesWith_24 : decode cX11_doesWith 24 = .ok (.aload_n 0, 1) := by decide +kernel
theorem dX11_doesWith_25 : decode cX11_doesWith 25 = .ok (.getfield 52, 3) := by decide +kernel
theorem dX11_doesWith_28 : decode cX11_doesWith 28 = .ok (.sipush 256, 3) := by decide +kernel
theorem dX11_doesWith_31 : decode cX11_doesWith 31 = .ok (.iload_n 1, 1) := by decide +kernel
theorem dX11_doesWith_32 : decode cX11_doesWith 32 = .ok (.imul, 1) := by decide +kernel
theorem dX11_doesWith_33 : decode cX11_doesWith 33 = .ok (.iload 6, 2) := by decide +kernel
theorem dX11_doesWith_35 : decode cX11_doesWith 35 = .ok (.iadd, 1) := by decide +kernel
theorem dX11_doesWith_36 : decode cX11_doesWith 36 = .ok (.iaload, 1) := by decide +kernel
theorem dX11_doesWith_37 : decode cX11_doesWith 37 = .ok (.iload_n 2, 1) := by decide +kernel
theorem dX11_doesWith_38 : decode cX11_doesWith 38 = .ok (.iload_n 3, 1) := by decide +kernel
theorem dX11_doesWith_39 : decode cX11_doesWith 39 = .ok (.iload 4, 2) := by decide +kernel
theorem dX11_doesWith_41 : decode cX11_doesWith 41 = .ok (.invokevirtual 198, 3) := by decide +kernel
theorem dX11_doesWith_44 : decode cX11_doesWith 44 = .ok (.ifCond .eq 49, 3) := by decide +kernel
theorem dX11_doesWith_47 : decode cX11_doesWith 47 = .ok (.aload_n 0, 1) := by decide +kernel
theorem dX11_doesWith_48 : decode cX11_doesWith 48 = .ok (.getfield 52, 3) := by decide +kernel
theorem dX11_doesWith_51 : decode cX11_doesWith 51 = .ok (.sipush 256, 3) := by decide +kernel
theorem dX11_doesWith_54 : decode cX11_doesWith 54 = .ok (.iload_n 1, 1) := by decide +kernel
theorem dX11_doesWith_55 : decode cX11_doesWith 55 = .ok (.iconst 1, 1) := by decide +kernel
theorem dX11_doesWith_56 : decode cX11_doesWith 56 = .ok (.iadd, 1) := by decide +kernel
theorem dX11_doesWith_57 : decode cX11_doesWith 57 = .ok (.imul, 1) := by decide +kernel
theorem dX11_doesWith_58 : decode cX11_doesWith 58 = .ok (.aload_n 0, 1) := by decide +kernel
theorem dX11_doesWith_59 : decode cX11_doesWith 59 = .ok (.getfield 55, 3) := by decide +kernel
theorem dX11_doesWith_62 : decode cX11_doesWith 62 = .ok (.iload_n 1, 1) := by decide +kernel
theorem dX11_doesWith_63 : decode cX11_doesWith 63 = .ok (.iconst 1, 1) := by decide +kernel
theorem dX11_doesWith_64 : decode cX11_doesWith 64 = .ok (.iadd, 1) := by decide +kernel
theorem dX11_doesWith_65 : decode cX11_doesWith 65 = .ok (.iaload, 1) := by decide +kernel
theorem dX11_doesWith_66 : decode cX11_doesWith 66 = .ok (.iadd, 1) := by decide +kernel
theorem dX11_doesWith_67 : decode cX11_doesWith 67 = .ok (.aload_n 0, 1) := by decide +kernel
theorem dX11_doesWith_68 : decode cX11_doesWith 68 = .ok (.getfield 52, 3) := by decide +kernel
theorem dX11_doesWith_71 : decode cX11_doesWith 71 = .ok (.sipush 256, 3) := by decide +kernel
theorem dX11_doesWith_74 : decode cX11_doesWith 74 = .ok (.iload_n 1, 1) := by decide +kernel
theorem dX11_doesWith_75 : decode cX11_doesWith 75 = .ok (.imul, 1) := by decide +kernel
theorem dX11_doesWith_76 : decode cX11_doesWith 76 = .ok (.iload 6, 2) := by decide +kernel
theorem dX11_doesWith_78 : decode cX11_doesWith 78 = .ok (.iadd, 1) := by decide +kernel
theorem dX11_doesWith_79 : decode cX11_doesWith 79 = .ok (.iaload, 1) := by decide +kernel
theorem dX11_doesWith_80 : decode cX11_doesWith 80 = .ok (.iastore, 1) := by decide +kernel
theorem dX11_doesWith_81 : decode cX11_doesWith 81 = .ok (.aload_n 0, 1) := by decide +kernel
theorem dX11_doesWith_82 : decode cX11_doesWith 82 = .ok (.getfield 55, 3) := by decide +kernel
theorem dX11_doesWith_85 : decode cX11_doesWith 85 = .ok (.iload_n 1, 1) := by decide +kernel
theorem dX11_doesWith_86 : decode cX11_doesWith 86 = .ok (.iconst 1, 1) := by decide +kernel
theorem dX11_doesWith_87 : decode cX11_doesWith 87 = .ok (.iadd, 1) := by decide +kernel
theorem dX11_doesWith_88 : decode cX11_doesWith 88 = .ok (.dup2, 1) := by decide +kernel
theorem dX11_doesWith_89 : decode cX11_doesWith 89 = .ok (.iaload, 1) := by decide +kernel
theorem dX11_doesWith_90 : decode cX11_doesWith 90 = .ok (.iconst 1, 1) := by decide +kernel
theorem dX11_doesWith_91 : decode cX11_doesWith 91 = .ok (.iadd, 1) := by decide +kernel
theorem dX11_doesWith_92 : decode cX11_doesWith 92 = .ok (.iastore, 1) := by decide +kernel
theorem dX11_doesWith_93 : decode cX11_doesWith 93 = .ok (.iinc 6 1, 3) := by decide +kernel
theorem dX11_doesWith_96 : decode cX11_doesWith 96 = .ok (.goto (-84), 3) := by decide +kernel
theorem dX11_doesWith_99 : decode cX11_doesWith 99 = .ok (.aload_n 0, 1) := by decide +kernel
theorem dX11_doesWith_100 : decode cX11_doesWith 100 = .ok (.iload_n 1, 1) := by decide +kernel
theorem dX11_doesWith_101 : decode cX11_doesWith 101 = .ok (.iconst 1, 1) := by decide +kernel
theorem dX11_doesWith_102 : decode cX11_doesWith 102 = .ok (.iadd, 1) := by decide +kernel
theorem dX11_doesWith_103 : decode cX11_doesWith 103 = .ok (.iload 5, 2) := by decide +kernel
theorem dX11_doesWith_105 : decode cX11_doesWith 105 = .ok (.iconst 1, 1) := by decide +kernel
theorem dX11_doesWith_106 : decode cX11_doesWith 106 = .ok (.isub, 1) := by decide +kernel
theorem dX11_doesWith_107 : decode cX11_doesWith 107 = .ok (.invokevirtual 245, 3) := by decide +kernel
theorem dX11_doesWith_110 : decode cX11_doesWith 110 = .ok (.ireturn, 1) := by decide +kernel
theorem dX11_rounds_0 : decode cX11_rounds 0 = .ok (.aload_n 0, 1) := by decide +kernel
theorem dX11_rounds_1 : decode cX11_rounds 1 = .ok (.getfield 9, 3) := by decide +kernel
theorem dX11_rounds_4 : decode cX11_rounds 4 = .ok (.iconst 0, 1) := by decide +kernel
theorem dX11_rounds_5 : decode cX11_rounds 5 = .ok (.iaload, 1) := by decide +kernel
theorem dX11_rounds_6 : decode cX11_rounds 6 = .ok (.bipush 8, 2) := by decide +kernel
theorem dX11_rounds_8 : decode cX11_rounds 8 = .ok (.if_icmp .gt 12, 3) := by decide +kernel
theorem dX11_rounds_11 : decode cX11_rounds 11 = .ok (.aload_n 0, 1) := by decide +kernel
theorem dX11_rounds_12 : decode cX11_rounds 12 = .ok (.invokevirtual 248, 3) := by decide +kernel
theorem dX11_rounds_15 : decode cX11_rounds 15 = .ok (.bipush 24, 2) := by decide +kernel
theorem dX11_rounds_17 : decode cX11_rounds 17 = .ok (.if_icmp .le 10, 3) := by decide +kernel
theorem dX11_rounds_20 : decode cX11_rounds 20 = .ok (.aload_n 0, 1) := by decide +kernel
theorem dX11_rounds_21 : decode cX11_rounds 21 = .ok (.ldc 92, 2) := by decide +kernel
theorem dX11_rounds_23 : decode cX11_rounds 23 = .ok (.invokevirtual 88, 3) := by decide +kernel
theorem dX11_rounds_26 : decode cX11_rounds 26 = .ok (.ireturn, 1) := by decide +kernel
theorem dX11_rounds_27 : decode cX11_rounds 27 = .ok (.aload_n 0, 1) := by decide +kernel
theorem dX11_rounds_28 : decode cX11_rounds 28 = .ok (.invokevirtual 216, 3) := by decide +kernel
theorem dX11_rounds_31 : decode cX11_rounds 31 = .ok (.aload_n 0, 1) := by decide +kernel
theorem dX11_rounds_32 : decode cX11_rounds 32 = .ok (.getfield 55, 3) := by decide +kernel
theorem dX11_rounds_35 : decode cX11_rounds 35 = .ok (.iconst 0, 1) := by decide +kernel
theorem dX11_rounds_36 : decode cX11_rounds 36 = .ok (.aload_n 0, 1) := by decide +kernel
theorem dX11_rounds_37 : decode cX11_rounds 37 = .ok (.getfield 213, 3) := by decide +kernel
theorem dX11_rounds_40 : decode cX11_rounds 40 = .ok (.iastore, 1) := by decide +kernel
theorem dX11_rounds_41 : decode cX11_rounds 41 = .ok (.iconst 0, 1) := by decide +kernel
theorem dX11_rounds_42 : decode cX11_rounds 42 = .ok (.istore_n 1, 1) := by decide +kernel
theorem dX11_rounds_43 : decode cX11_rounds 43 = .ok (.iload_n 1, 1) := by decide +kernel
theorem dX11_rounds_44 : decode cX11_rounds 44 = .ok (.aload_n 0, 1) := by decide +kernel
theorem dX11_rounds_45 : decode cX11_rounds 45 = .ok (.getfield 213, 3) := by decide +kernel
theorem dX11_rounds_48 : decode cX11_rounds 48 = .ok (.if_icmp .ge 21, 3) := by decide +kernel
theorem dX11_rounds_51 : decode cX11_rounds 51 = .ok (.aload_n 0, 1) := by decide +kernel
theorem dX11_rounds_52 : decode cX11_rounds 52 = .ok (.getfield 52, 3) := by decide +kernel
theorem dX11_rounds_55 : decode cX11_rounds 55 = .ok (.iload_n 1, 1) := by decide +kernel
theorem dX11_rounds_56 : decode cX11_rounds 56 = .ok (.aload_n 0, 1) := by decide +kernel
theorem dX11_rounds_57 : decode cX11_rounds 57 = .ok (.getfield 40, 3) := by decide +kernel
theorem dX11_rounds_60 : decode cX11_rounds 60 = .ok (.iload_n 1, 1) := by decide +kernel
theorem dX11_rounds_61 : decode cX11_rounds 61 = .ok (.iaload, 1) := by decide +kernel
theorem dX11_rounds_62 : decode cX11_rounds 62 = .ok (.iastore, 1) := by decide +kernel
theorem dX11_rounds_63 : decode cX11_rounds 63 = .ok (.iinc 1 1, 3) := by decide +kernel
theorem dX11_rounds_66 : decode cX11_rounds 66 = .ok (.goto (-23), 3) := by decide +kernel
theorem dX11_rounds_69 : decode cX11_rounds 69 = .ok (.iconst 0, 1) := by decide +kernel
theorem dX11_rounds_70 : decode cX11_rounds 70 = .ok (.istore_n 1, 1) := by decide +kernel
theorem dX11_rounds_71 : decode cX11_rounds 71 = .ok (.iload_n 1, 1) := by decide +kernel
theorem dX11_rounds_72 : decode cX11_rounds 72 = .ok (.iconst 3, 1) := by decide +kernel
theorem dX11_rounds_73 : decode cX11_rounds 73 = .ok (.if_icmp .ge 20, 3) := by decide +kernel
theorem dX11_rounds_76 : decode cX11_rounds 76 = .ok (.aload_n 0, 1) := by decide +kernel
theorem dX11_rounds_77 : decode cX11_rounds 77 = .ok (.iconst 0, 1) := by decide +kernel
theorem dX11_rounds_78 : decode cX11_rounds 78 = .ok (.iload_n 1, 1) := by decide +kernel
theorem dX11_rounds_79 : decode cX11_rounds 79 = .ok (.invokevirtual 245, 3) := by decide +kernel
theorem dX11_rounds_82 : decode cX11_rounds 82 = .ok (.ifCond .eq 5, 3) := by decide +kernel
theorem dX11_rounds_85 : decode cX11_rounds 85 = .ok (.iload_n 1, 1) := by decide +kernel
theorem dX11_rounds_86 : decode cX11_rounds 86 = .ok (.ireturn, 1) := by decide +kernel
theorem dX11_rounds_87 : decode cX11_rounds 87 = .ok (.iinc 1 1, 3) := by decide +kernel
theorem dX11_rounds_90 : decode cX11_rounds 90 = .ok (.goto (-19), 3) := by decide +kernel
theorem dX11_rounds_93 : decode cX11_rounds 93 = .ok (.aload_n 0, 1) := by decide +kernel
theorem dX11_rounds_94 : decode cX11_rounds 94 = .ok (.ldc 219, 2) := by decide +kernel
theorem dX11_rounds_96 : decode cX11_rounds 96 = .ok (.invokevirtual 88, 3) := by decide +kernel
theorem dX11_rounds_99 : decode cX11_rounds 99 = .ok (.ireturn, 1) := by decide +kernel
theorem dX11_weightOf_0 : decode cX11_weightOf 0 = .ok (.lconst 1, 1) := by decide +kernel
theorem dX11_weightOf_1 : decode cX11_weightOf 1 = .ok (.lstore_n 2, 1) := by decide +kernel
theorem dX11_weightOf_2 : decode cX11_weightOf 2 = .ok (.iconst 0, 1) := by decide +kernel
theorem dX11_weightOf_3 : decode cX11_weightOf 3 = .ok (.istore 4, 2) := by decide +kernel
theorem dX11_weightOf_5 : decode cX11_weightOf 5 = .ok (.iload 4, 2) := by decide +kernel
theorem dX11_weightOf_7 : decode cX11_weightOf 7 = .ok (.aload_n 0, 1) := by decide +kernel
theorem dX11_weightOf_8 : decode cX11_weightOf 8 = .ok (.getfield 9, 3) := by decide +kernel
theorem dX11_weightOf_11 : decode cX11_weightOf 11 = .ok (.iconst 0, 1) := by decide +kernel
theorem dX11_weightOf_12 : decode cX11_weightOf 12 = .ok (.iaload, 1) := by decide +kernel
theorem dX11_weightOf_13 : decode cX11_weightOf 13 = .ok (.if_icmp .ge 42, 3) := by decide +kernel
theorem dX11_weightOf_16 : decode cX11_weightOf 16 = .ok (.aload_n 0, 1) := by decide +kernel
theorem dX11_weightOf_17 : decode cX11_weightOf 17 = .ok (.iload 4, 2) := by decide +kernel
theorem dX11_weightOf_19 : decode cX11_weightOf 19 = .ok (.iconst 2, 1) := by decide +kernel
theorem dX11_weightOf_20 : decode cX11_weightOf 20 = .ok (.invokevirtual 105, 3) := by decide +kernel
theorem dX11_weightOf_23 : decode cX11_weightOf 23 = .ok (.istore 5, 2) := by decide +kernel
theorem dX11_weightOf_25 : decode cX11_weightOf 25 = .ok (.lload_n 2, 1) := by decide +kernel
theorem dX11_weightOf_26 : decode cX11_weightOf 26 = .ok (.iload_n 1, 1) := by decide +kernel
theorem dX11_weightOf_27 : decode cX11_weightOf 27 = .ok (.iload 4, 2) := by decide +kernel
theorem dX11_weightOf_29 : decode cX11_weightOf 29 = .ok (.invokestatic 195, 3) := by decide +kernel
theorem dX11_weightOf_32 : decode cX11_weightOf 32 = .ok (.ifCond .eq 9, 3) := by decide +kernel
theorem dX11_weightOf_35 : decode cX11_weightOf 35 = .ok (.iload 5, 2) := by decide +kernel
theorem dX11_weightOf_37 : decode cX11_weightOf 37 = .ok (.i2l, 1) := by decide +kernel
theorem dX11_weightOf_38 : decode cX11_weightOf 38 = .ok (.goto 9, 3) := by decide +kernel
theorem dX11_weightOf_41 : decode cX11_weightOf 41 = .ok (.bipush 10, 2) := by decide +kernel
theorem dX11_weightOf_43 : decode cX11_weightOf 43 = .ok (.iload 5, 2) := by decide +kernel
theorem dX11_weightOf_45 : decode cX11_weightOf 45 = .ok (.isub, 1) := by decide +kernel
theorem dX11_weightOf_46 : decode cX11_weightOf 46 = .ok (.i2l, 1) := by decide +kernel
theorem dX11_weightOf_47 : decode cX11_weightOf 47 = .ok (.lmul, 1) := by decide +kernel
theorem dX11_weightOf_48 : decode cX11_weightOf 48 = .ok (.lstore_n 2, 1) := by decide +kernel
theorem dX11_weightOf_49 : decode cX11_weightOf 49 = .ok (.iinc 4 1, 3) := by decide +kernel
theorem dX11_weightOf_52 : decode cX11_weightOf 52 = .ok (.goto (-47), 3) := by decide +kernel
theorem dX11_weightOf_55 : decode cX11_weightOf 55 = .ok (.lload_n 2, 1) := by decide +kernel
theorem dX11_weightOf_56 : decode cX11_weightOf 56 = .ok (.lreturn, 1) := by decide +kernel
theorem dX11_likely_0 : decode cX11_likely 0 = .ok (.aload_n 0, 1) := by decide +kernel
theorem dX11_likely_1 : decode cX11_likely 1 = .ok (.invokevirtual 216, 3) := by decide +kernel
theorem dX11_likely_4 : decode cX11_likely 4 = .ok (.iconst (-1), 1) := by decide +kernel
theorem dX11_likely_5 : decode cX11_likely 5 = .ok (.istore_n 1, 1) := by decide +kernel
theorem dX11_likely_6 : decode cX11_likely 6 = .ok (.lconst 0, 1) := by decide +kernel
theorem dX11_likely_7 : decode cX11_likely 7 = .ok (.lstore_n 2, 1) := by decide +kernel
theorem dX11_likely_8 : decode cX11_likely 8 = .ok (.iconst 0, 1) := by decide +kernel
theorem dX11_likely_9 : decode cX11_likely 9 = .ok (.istore 4, 2) := by decide +kernel
theorem dX11_likely_11 : decode cX11_likely 11 = .ok (.iload 4, 2) := by decide +kernel
theorem dX11_likely_13 : decode cX11_likely 13 = .ok (.aload_n 0, 1) := by decide +kernel
theorem dX11_likely_14 : decode cX11_likely 14 = .ok (.getfield 213, 3) := by decide +kernel
theorem dX11_likely_17 : decode cX11_likely 17 = .ok (.if_icmp .ge 40, 3) := by decide +kernel
theorem dX11_likely_20 : decode cX11_likely 20 = .ok (.aload_n 0, 1) := by decide +kernel
theorem dX11_likely_21 : decode cX11_likely 21 = .ok (.aload_n 0, 1) := by decide +kernel
theorem dX11_likely_22 : decode cX11_likely 22 = .ok (.getfield 40, 3) := by decide +kernel
theorem dX11_likely_25 : decode cX11_likely 25 = .ok (.iload 4, 2) := by decide +kernel
theorem dX11_likely_27 : decode cX11_likely 27 = .ok (.iaload, 1) := by decide +kernel
theorem dX11_likely_28 : decode cX11_likely 28 = .ok (.invokevirtual 251, 3) := by decide +kernel
theorem dX11_likely_31 : decode cX11_likely 31 = .ok (.lstore 5, 2) := by decide +kernel
theorem dX11_likely_33 : decode cX11_likely 33 = .ok (.lload 5, 2) := by decide +kernel
theorem dX11_likely_35 : decode cX11_likely 35 = .ok (.lload_n 2, 1) := by decide +kernel
theorem dX11_likely_36 : decode cX11_likely 36 = .ok (.lcmp, 1) := by decide +kernel
theorem dX11_likely_37 : decode cX11_likely 37 = .ok (.ifCond .le 14, 3) := by decide +kernel
theorem dX11_likely_40 : decode cX11_likely 40 = .ok (.aload_n 0, 1) := by decide +kernel
theorem dX11_likely_41 : decode cX11_likely 41 = .ok (.getfield 40, 3) := by decide +kernel
theorem dX11_likely_44 : decode cX11_likely 44 = .ok (.iload 4, 2) := by decide +kernel
theorem dX11_likely_46 : decode cX11_likely 46 = .ok (.iaload, 1) := by decide +kernel
theorem dX11_likely_47 : decode cX11_likely 47 = .ok (.istore_n 1, 1) := by decide +kernel
theorem dX11_likely_48 : decode cX11_likely 48 = .ok (.lload 5, 2) := by decide +kernel
theorem dX11_likely_50 : decode cX11_likely 50 = .ok (.lstore_n 2, 1) := by decide +kernel
theorem dX11_likely_51 : decode cX11_likely 51 = .ok (.iinc 4 1, 3) := by decide +kernel
theorem dX11_likely_54 : decode cX11_likely 54 = .ok (.goto (-43), 3) := by decide +kernel
theorem dX11_likely_57 : decode cX11_likely 57 = .ok (.iload_n 1, 1) := by decide +kernel
theorem dX11_likely_58 : decode cX11_likely 58 = .ok (.ifCond .ge 12, 3) := by decide +kernel
theorem dX11_likely_61 : decode cX11_likely 61 = .ok (.aload_n 0, 1) := by decide +kernel
theorem dX11_likely_62 : decode cX11_likely 62 = .ok (.ldc 219, 2) := by decide +kernel
theorem dX11_likely_64 : decode cX11_likely 64 = .ok (.invokevirtual 88, 3) := by decide +kernel
theorem dX11_likely_67 : decode cX11_likely 67 = .ok (.goto 4, 3) := by decide +kernel
theorem dX11_likely_70 : decode cX11_likely 70 = .ok (.iload_n 1, 1) := by decide +kernel
theorem dX11_likely_71 : decode cX11_likely 71 = .ok (.ireturn, 1) := by decide +kernel
theorem dX11_divisor_0 : decode cX11_divisor 0 = .ok (.lload_n 2, 1) := by decide +kernel
theorem dX11_divisor_1 : decode cX11_divisor 1 = .ok (.lconst 0, 1) := by decide +kernel
theorem dX11_divisor_2 : decode cX11_divisor 2 = .ok (.lcmp, 1) := by decide +kernel
theorem dX11_divisor_3 : decode cX11_divisor 3 = .ok (.ifCond .ne 7, 3) := by decide +kernel
theorem dX11_divisor_6 : decode cX11_divisor 6 = .ok (.lload_n 0, 1) := by decide +kernel
theorem dX11_divisor_7 : decode cX11_divisor 7 = .ok (.goto 10, 3) := by decide +kernel
theorem dX11_divisor_10 : decode cX11_divisor 10 = .ok (.lload_n 2, 1) := by decide +kernel
theorem dX11_divisor_11 : decode cX11_divisor 11 = .ok (.lload_n 0, 1) := by decide +kernel
theorem dX11_divisor_12 : decode cX11_divisor 12 = .ok (.lload_n 2, 1) := by decide +kernel
theorem dX11_divisor_13 : decode cX11_divisor 13 = .ok (.lrem, 1) := by decide +kernel
theorem dX11_divisor_14 : decode cX11_divisor 14 = .ok (.invokestatic 255, 3) := by decide +kernel
theorem dX11_divisor_17 : decode cX11_divisor 17 = .ok (.lreturn, 1) := by decide +kernel
theorem dX11_chance_0 : decode cX11_chance 0 = .ok (.aload_n 0, 1) := by decide +kernel
theorem dX11_chance_1 : decode cX11_chance 1 = .ok (.iload_n 1, 1) := by decide +kernel
theorem dX11_chance_2 : decode cX11_chance 2 = .ok (.iconst 0, 1) := by decide +kernel
theorem dX11_chance_3 : decode cX11_chance 3 = .ok (.invokevirtual 101, 3) := by decide +kernel
theorem dX11_chance_6 : decode cX11_chance 6 = .ok (.ifCond .eq 12, 3) := by decide +kernel
theorem dX11_chance_9 : decode cX11_chance 9 = .ok (.iload_n 2, 1) := by decide +kernel
theorem dX11_chance_10 : decode cX11_chance 10 = .ok (.iconst 0, 1) := by decide +kernel
theorem dX11_chance_11 : decode cX11_chance 11 = .ok (.iconst 1, 1) := by decide +kernel
theorem dX11_chance_12 : decode cX11_chance 12 = .ok (.invokestatic 83, 3) := by decide +kernel
theorem dX11_chance_15 : decode cX11_chance 15 = .ok (.ifCond .ne 11, 3) := by decide +kernel
theorem dX11_chance_18 : decode cX11_chance 18 = .ok (.aload_n 0, 1) := by decide +kernel
theorem dX11_chance_19 : decode cX11_chance 19 = .ok (.ldc 87, 2) := by decide +kernel
theorem dX11_chance_21 : decode cX11_chance 21 = .ok (.invokevirtual 88, 3) := by decide +kernel
theorem dX11_chance_24 : decode cX11_chance 24 = .ok (.i2l, 1) := by decide +kernel
theorem dX11_chance_25 : decode cX11_chance 25 = .ok (.lreturn, 1) := by decide +kernel
theorem dX11_chance_26 : decode cX11_chance 26 = .ok (.aload_n 0, 1) := by decide +kernel
theorem dX11_chance_27 : decode cX11_chance 27 = .ok (.invokevirtual 216, 3) := by decide +kernel
theorem dX11_chance_30 : decode cX11_chance 30 = .ok (.aload_n 0, 1) := by decide +kernel
theorem dX11_chance_31 : decode cX11_chance 31 = .ok (.getfield 213, 3) := by decide +kernel
theorem dX11_chance_34 : decode cX11_chance 34 = .ok (.ifCond .ne 11, 3) := by decide +kernel
theorem dX11_chance_37 : decode cX11_chance 37 = .ok (.aload_n 0, 1) := by decide +kernel
theorem dX11_chance_38 : decode cX11_chance 38 = .ok (.ldc 219, 2) := by decide +kernel
theorem dX11_chance_40 : decode cX11_chance 40 = .ok (.invokevirtual 88, 3) := by decide +kernel
theorem dX11_chance_43 : decode cX11_chance 43 = .ok (.i2l, 1) := by decide +kernel
theorem dX11_chance_44 : decode cX11_chance 44 = .ok (.lreturn, 1) := by decide +kernel
theorem dX11_chance_45 : decode cX11_chance 45 = .ok (.lconst 0, 1) := by decide +kernel
theorem dX11_chance_46 : decode cX11_chance 46 = .ok (.lstore_n 3, 1) := by decide +kernel
theorem dX11_chance_47 : decode cX11_chance 47 = .ok (.lconst 0, 1) := by decide +kernel
theorem dX11_chance_48 : decode cX11_chance 48 = .ok (.lstore 5, 2) := by decide +kernel
theorem dX11_chance_50 : decode cX11_chance 50 = .ok (.iconst 0, 1) := by decide +kernel
theorem dX11_chance_51 : decode cX11_chance 51 = .ok (.istore 7, 2) := by decide +kernel
theorem dX11_chance_53 : decode cX11_chance 53 = .ok (.iload 7, 2) := by decide +kernel
theorem dX11_chance_55 : decode cX11_chance 55 = .ok (.aload_n 0, 1) := by decide +kernel
theorem dX11_chance_56 : decode cX11_chance 56 = .ok (.getfield 213, 3) := by decide +kernel
theorem dX11_chance_59 : decode cX11_chance 59 = .ok (.if_icmp .ge 52, 3) := by decide +kernel
theorem dX11_chance_62 : decode cX11_chance 62 = .ok (.aload_n 0, 1) := by decide +kernel
theorem dX11_chance_63 : decode cX11_chance 63 = .ok (.aload_n 0, 1) := by decide +kernel
theorem dX11_chance_64 : decode cX11_chance 64 = .ok (.getfield 40, 3) := by decide +kernel
theorem dX11_chance_67 : decode cX11_chance 67 = .ok (.iload 7, 2) := by decide +kernel
theorem dX11_chance_69 : decode cX11_chance 69 = .ok (.iaload, 1) := by decide +kernel
theorem dX11_chance_70 : decode cX11_chance 70 = .ok (.invokevirtual 251, 3) := by decide +kernel
theorem dX11_chance_73 : decode cX11_chance 73 = .ok (.lstore 8, 2) := by decide +kernel
theorem dX11_chance_75 : decode cX11_chance 75 = .ok (.lload_n 3, 1) := by decide +kernel
theorem dX11_chance_76 : decode cX11_chance 76 = .ok (.lload 8, 2) := by decide +kernel
theorem dX11_chance_78 : decode cX11_chance 78 = .ok (.ladd, 1) := by decide +kernel
theorem dX11_chance_79 : decode cX11_chance 79 = .ok (.lstore_n 3, 1) := by decide +kernel
theorem dX11_chance_80 : decode cX11_chance 80 = .ok (.lload 5, 2) := by decide +kernel
theorem dX11_chance_82 : decode cX11_chance 82 = .ok (.aload_n 0, 1) := by decide +kernel
theorem dX11_chance_83 : decode cX11_chance 83 = .ok (.getfield 40, 3) := by decide +kernel
theorem dX11_chance_86 : decode cX11_chance 86 = .ok (.iload 7, 2) := by decide +kernel
theorem dX11_chance_88 : decode cX11_chance 88 = .ok (.iaload, 1) := by decide +kernel
theorem dX11_chance_89 : decode cX11_chance 89 = .ok (.iload_n 1, 1) := by decide +kernel
theorem dX11_chance_90 : decode cX11_chance 90 = .ok (.invokestatic 195, 3) := by decide +kernel
theorem dX11_chance_93 : decode cX11_chance 93 = .ok (.ifCond .eq 8, 3) := by decide +kernel
theorem dX11_chance_96 : decode cX11_chance 96 = .ok (.lload 8, 2) := by decide +kernel
theorem dX11_chance_98 : decode cX11_chance 98 = .ok (.goto 4, 3) := by decide +kernel
theorem dX11_chance_101 : decode cX11_chance 101 = .ok (.lconst 0, 1) := by decide +kernel
theorem dX11_chance_102 : decode cX11_chance 102 = .ok (.ladd, 1) := by decide +kernel
theorem dX11_chance_103 : decode cX11_chance 103 = .ok (.lstore 5, 2) := by decide +kernel
theorem dX11_chance_105 : decode cX11_chance 105 = .ok (.iinc 7 1, 3) := by decide +kernel
theorem dX11_chance_108 : decode cX11_chance 108 = .ok (.goto (-55), 3) := by decide +kernel
theorem dX11_chance_111 : decode cX11_chance 111 = .ok (.iload_n 2, 1) := by decide +kernel
theorem dX11_chance_112 : decode cX11_chance 112 = .ok (.ifCond .ne 8, 3) := by decide +kernel
theorem dX11_chance_115 : decode cX11_chance 115 = .ok (.lload 5, 2) := by decide +kernel
theorem dX11_chance_117 : decode cX11_chance 117 = .ok (.goto 4, 3) := by decide +kernel
theorem dX11_chance_120 : decode cX11_chance 120 = .ok (.lload_n 3, 1) := by decide +kernel
theorem dX11_chance_121 : decode cX11_chance 121 = .ok (.lload_n 3, 1) := by decide +kernel
theorem dX11_chance_122 : decode cX11_chance 122 = .ok (.lload 5, 2) := by decide +kernel
theorem dX11_chance_124 : decode cX11_chance 124 = .ok (.invokestatic 255, 3) := by decide +kernel
theorem dX11_chance_127 : decode cX11_chance 127 = .ok (.ldiv, 1) := by decide +kernel
theorem dX11_chance_128 : decode cX11_chance 128 = .ok (.lreturn, 1) := by decide +kernel
theorem dX11_letsWhole_0 : decode cX11_letsWhole 0 = .ok (.iconst 0, 1) := by decide +kernel
theorem dX11_letsWhole_1 : decode cX11_letsWhole 1 = .ok (.istore_n 3, 1) := by decide +kernel
theorem dX11_letsWhole_2 : decode cX11_letsWhole 2 = .ok (.iload_n 3, 1) := by decide +kernel
theorem dX11_letsWhole_3 : decode cX11_letsWhole 3 = .ok (.sipush 144, 3) := by decide +kernel
theorem dX11_letsWhole_6 : decode cX11_letsWhole 6 = .ok (.if_icmp .ge 68, 3) := by decide +kernel
theorem dX11_letsWhole_9 : decode cX11_letsWhole 9 = .ok (.iload_n 3, 1) := by decide +kernel
theorem dX11_letsWhole_10 : decode cX11_letsWhole 10 = .ok (.bipush 12, 2) := by decide +kernel
theorem dX11_letsWhole_12 : decode cX11_letsWhole 12 = .ok (.idiv, 1) := by decide +kernel
theorem dX11_letsWhole_13 : decode cX11_letsWhole 13 = .ok (.istore 4, 2) := by decide +kernel
theorem dX11_letsWhole_15 : decode cX11_letsWhole 15 = .ok (.aload_n 0, 1) := by decide +kernel
theorem dX11_letsWhole_16 : decode cX11_letsWhole 16 = .ok (.getfield 9, 3) := by decide +kernel
theorem dX11_letsWhole_19 : decode cX11_letsWhole 19 = .ok (.bipush 41, 2) := by decide +kernel
theorem dX11_letsWhole_21 : decode cX11_letsWhole 21 = .ok (.iload_n 3, 1) := by decide +kernel
theorem dX11_letsWhole_22 : decode cX11_letsWhole 22 = .ok (.iadd, 1) := by decide +kernel
theorem dX11_letsWhole_23 : decode cX11_letsWhole 23 = .ok (.iaload, 1) := by decide +kernel
theorem dX11_letsWhole_24 : decode cX11_letsWhole 24 = .ok (.ifCond .le 44, 3) := by decide +kernel
theorem dX11_letsWhole_27 : decode cX11_letsWhole 27 = .ok (.iload_n 2, 1) := by decide +kernel
theorem dX11_letsWhole_28 : decode cX11_letsWhole 28 = .ok (.iload 4, 2) := by decide +kernel
theorem dX11_letsWhole_30 : decode cX11_letsWhole 30 = .ok (.invokestatic 195, 3) := by decide +kernel
theorem dX11_letsWhole_33 : decode cX11_letsWhole 33 = .ok (.ifCond .ne 35, 3) := by decide +kernel
theorem dX11_letsWhole_36 : decode cX11_letsWhole 36 = .ok (.aload_n 0, 1) := by decide +kernel
theorem dX11_letsWhole_37 : decode cX11_letsWhole 37 = .ok (.iload_n 1, 1) := by decide +kernel
theorem dX11_letsWhole_38 : decode cX11_letsWhole 38 = .ok (.iload 4, 2) := by decide +kernel
theorem dX11_letsWhole_40 : decode cX11_letsWhole 40 = .ok (.iload_n 3, 1) := by decide +kernel
theorem dX11_letsWhole_41 : decode cX11_letsWhole 41 = .ok (.bipush 12, 2) := by decide +kernel
theorem dX11_letsWhole_43 : decode cX11_letsWhole 43 = .ok (.irem, 1) := by decide +kernel
theorem dX11_letsWhole_44 : decode cX11_letsWhole 44 = .ok (.iload_n 2, 1) := by decide +kernel
theorem dX11_letsWhole_45 : decode cX11_letsWhole 45 = .ok (.iload_n 3, 1) := by decide +kernel
theorem dX11_letsWhole_46 : decode cX11_letsWhole 46 = .ok (.bipush 12, 2) := by decide +kernel
theorem dX11_letsWhole_48 : decode cX11_letsWhole 48 = .ok (.irem, 1) := by decide +kernel
theorem dX11_letsWhole_49 : decode cX11_letsWhole 49 = .ok (.invokestatic 195, 3) := by decide +kernel
theorem dX11_letsWhole_52 : decode cX11_letsWhole 52 = .ok (.ifCond .ne 7, 3) := by decide +kernel
theorem dX11_letsWhole_55 : decode cX11_letsWhole 55 = .ok (.iconst 1, 1) := by decide +kernel
theorem dX11_letsWhole_56 : decode cX11_letsWhole 56 = .ok (.goto 4, 3) := by decide +kernel
theorem dX11_letsWhole_59 : decode cX11_letsWhole 59 = .ok (.iconst 0, 1) := by decide +kernel
theorem dX11_letsWhole_60 : decode cX11_letsWhole 60 = .ok (.invokevirtual 198, 3) := by decide +kernel
theorem dX11_letsWhole_63 : decode cX11_letsWhole 63 = .ok (.ifCond .ne 5, 3) := by decide +kernel
theorem dX11_letsWhole_66 : decode cX11_letsWhole 66 = .ok (.iconst 0, 1) := by decide +kernel
theorem dX11_letsWhole_67 : decode cX11_letsWhole 67 = .ok (.ireturn, 1) := by decide +kernel
theorem dX11_letsWhole_68 : decode cX11_letsWhole 68 = .ok (.iinc 3 1, 3) := by decide +kernel
theorem dX11_letsWhole_71 : decode cX11_letsWhole 71 = .ok (.goto (-69), 3) := by decide +kernel
theorem dX11_letsWhole_74 : decode cX11_letsWhole 74 = .ok (.iconst 1, 1) := by decide +kernel
theorem dX11_letsWhole_75 : decode cX11_letsWhole 75 = .ok (.ireturn, 1) := by decide +kernel
theorem dX11_lets_0 : decode cX11_lets 0 = .ok (.iload_n 2, 1) := by decide +kernel
theorem dX11_lets_1 : decode cX11_lets 1 = .ok (.bipush 12, 2) := by decide +kernel
theorem dX11_lets_3 : decode cX11_lets 3 = .ok (.idiv, 1) := by decide +kernel
theorem dX11_lets_4 : decode cX11_lets 4 = .ok (.istore_n 3, 1) := by decide +kernel
theorem dX11_lets_5 : decode cX11_lets 5 = .ok (.iload_n 2, 1) := by decide +kernel
theorem dX11_lets_6 : decode cX11_lets 6 = .ok (.bipush 12, 2) := by decide +kernel
theorem dX11_lets_8 : decode cX11_lets 8 = .ok (.irem, 1) := by decide +kernel
theorem dX11_lets_9 : decode cX11_lets 9 = .ok (.istore 4, 2) := by decide +kernel
theorem dX11_lets_11 : decode cX11_lets 11 = .ok (.aload_n 0, 1) := by decide +kernel
theorem dX11_lets_12 : decode cX11_lets 12 = .ok (.iload_n 1, 1) := by decide +kernel
theorem dX11_lets_13 : decode cX11_lets 13 = .ok (.iload_n 3, 1) := by decide +kernel
theorem dX11_lets_14 : decode cX11_lets 14 = .ok (.iload 4, 2) := by decide +kernel
theorem dX11_lets_16 : decode cX11_lets 16 = .ok (.iconst 1, 1) := by decide +kernel
theorem dX11_lets_17 : decode cX11_lets 17 = .ok (.invokevirtual 198, 3) := by decide +kernel
theorem dX11_lets_20 : decode cX11_lets 20 = .ok (.ifCond .eq 7, 3) := by decide +kernel
theorem dX11_lets_23 : decode cX11_lets 23 = .ok (.iconst 1, 1) := by decide +kernel
theorem dX11_lets_24 : decode cX11_lets 24 = .ok (.goto 4, 3) := by decide +kernel
theorem dX11_lets_27 : decode cX11_lets 27 = .ok (.iconst 0, 1) := by decide +kernel
theorem dX11_lets_28 : decode cX11_lets 28 = .ok (.aload_n 0, 1) := by decide +kernel
theorem dX11_lets_29 : decode cX11_lets 29 = .ok (.iload_n 1, 1) := by decide +kernel
theorem dX11_lets_30 : decode cX11_lets 30 = .ok (.iload_n 3, 1) := by decide +kernel
theorem dX11_lets_31 : decode cX11_lets 31 = .ok (.iload 4, 2) := by decide +kernel
theorem dX11_lets_33 : decode cX11_lets 33 = .ok (.iconst 0, 1) := by decide +kernel
theorem dX11_lets_34 : decode cX11_lets 34 = .ok (.invokevirtual 198, 3) := by decide +kernel
theorem dX11_lets_37 : decode cX11_lets 37 = .ok (.ifCond .eq 7, 3) := by decide +kernel
theorem dX11_lets_40 : decode cX11_lets 40 = .ok (.iconst 2, 1) := by decide +kernel
theorem dX11_lets_41 : decode cX11_lets 41 = .ok (.goto 4, 3) := by decide +kernel
theorem dX11_lets_44 : decode cX11_lets 44 = .ok (.iconst 0, 1) := by decide +kernel
theorem dX11_lets_45 : decode cX11_lets 45 = .ok (.iadd, 1) := by decide +kernel
theorem dX11_lets_46 : decode cX11_lets 46 = .ok (.ireturn, 1) := by decide +kernel
theorem dX11_letsAll_0 : decode cX11_letsAll 0 = .ok (.iconst 1, 1) := by decide +kernel
theorem dX11_letsAll_1 : decode cX11_letsAll 1 = .ok (.istore 4, 2) := by decide +kernel
theorem dX11_letsAll_3 : decode cX11_letsAll 3 = .ok (.iconst 0, 1) := by decide +kernel
theorem dX11_letsAll_4 : decode cX11_letsAll 4 = .ok (.istore 5, 2) := by decide +kernel
theorem dX11_letsAll_6 : decode cX11_letsAll 6 = .ok (.iload 5, 2) := by decide +kernel
theorem dX11_letsAll_8 : decode cX11_letsAll 8 = .ok (.iload_n 2, 1) := by decide +kernel
theorem dX11_letsAll_9 : decode cX11_letsAll 9 = .ok (.if_icmp .ge 53, 3) := by decide +kernel
theorem dX11_letsAll_12 : decode cX11_letsAll 12 = .ok (.iload 4, 2) := by decide +kernel
theorem dX11_letsAll_14 : decode cX11_letsAll 14 = .ok (.ifCond .eq 39, 3) := by decide +kernel
theorem dX11_letsAll_17 : decode cX11_letsAll 17 = .ok (.aload_n 0, 1) := by decide +kernel
theorem dX11_letsAll_18 : decode cX11_letsAll 18 = .ok (.iload_n 1, 1) := by decide +kernel
theorem dX11_letsAll_19 : decode cX11_letsAll 19 = .ok (.aload_n 0, 1) := by decide +kernel
theorem dX11_letsAll_20 : decode cX11_letsAll 20 = .ok (.getfield 58, 3) := by decide +kernel
theorem dX11_letsAll_23 : decode cX11_letsAll 23 = .ok (.iload 5, 2) := by decide +kernel
theorem dX11_letsAll_25 : decode cX11_letsAll 25 = .ok (.iaload, 1) := by decide +kernel
theorem dX11_letsAll_26 : decode cX11_letsAll 26 = .ok (.invokevirtual 259, 3) := by decide +kernel
theorem dX11_letsAll_29 : decode cX11_letsAll 29 = .ok (.iload_n 3, 1) := by decide +kernel
theorem dX11_letsAll_30 : decode cX11_letsAll 30 = .ok (.iload 5, 2) := by decide +kernel
theorem dX11_letsAll_32 : decode cX11_letsAll 32 = .ok (.invokestatic 195, 3) := by decide +kernel
theorem dX11_letsAll_35 : decode cX11_letsAll 35 = .ok (.ifCond .eq 7, 3) := by decide +kernel
theorem dX11_letsAll_38 : decode cX11_letsAll 38 = .ok (.iconst 0, 1) := by decide +kernel
theorem dX11_letsAll_39 : decode cX11_letsAll 39 = .ok (.goto 4, 3) := by decide +kernel
theorem dX11_letsAll_42 : decode cX11_letsAll 42 = .ok (.iconst 1, 1) := by decide +kernel
theorem dX11_letsAll_43 : decode cX11_letsAll 43 = .ok (.invokestatic 195, 3) := by decide +kernel
theorem dX11_letsAll_46 : decode cX11_letsAll 46 = .ok (.ifCond .eq 7, 3) := by decide +kernel
theorem dX11_letsAll_49 : decode cX11_letsAll 49 = .ok (.iconst 1, 1) := by decide +kernel
theorem dX11_letsAll_50 : decode cX11_letsAll 50 = .ok (.goto 4, 3) := by decide +kernel
theorem dX11_letsAll_53 : decode cX11_letsAll 53 = .ok (.iconst 0, 1) := by decide +kernel
theorem dX11_letsAll_54 : decode cX11_letsAll 54 = .ok (.istore 4, 2) := by decide +kernel
theorem dX11_letsAll_56 : decode cX11_letsAll 56 = .ok (.iinc 5 1, 3) := by decide +kernel
theorem dX11_letsAll_59 : decode cX11_letsAll 59 = .ok (.goto (-53), 3) := by decide +kernel
theorem dX11_letsAll_62 : decode cX11_letsAll 62 = .ok (.iload 4, 2) := by decide +kernel
theorem dX11_letsAll_64 : decode cX11_letsAll 64 = .ok (.ireturn, 1) := by decide +kernel
theorem dX11_worst_0 : decode cX11_worst 0 = .ok (.aload_n 0, 1) := by decide +kernel
theorem dX11_worst_1 : decode cX11_worst 1 = .ok (.iload_n 1, 1) := by decide +kernel
theorem dX11_worst_2 : decode cX11_worst 2 = .ok (.invokevirtual 207, 3) := by decide +kernel
theorem dX11_worst_5 : decode cX11_worst 5 = .ok (.ifCond .eq 12, 3) := by decide +kernel
theorem dX11_worst_8 : decode cX11_worst 8 = .ok (.iload_n 2, 1) := by decide +kernel
theorem dX11_worst_9 : decode cX11_worst 9 = .ok (.iconst 0, 1) := by decide +kernel
theorem dX11_worst_10 : decode cX11_worst 10 = .ok (.iconst 1, 1) := by decide +kernel
theorem dX11_worst_11 : decode cX11_worst 11 = .ok (.invokestatic 83, 3) := by decide +kernel
theorem dX11_worst_14 : decode cX11_worst 14 = .ok (.ifCond .ne 10, 3) := by decide +kernel
theorem dX11_worst_17 : decode cX11_worst 17 = .ok (.aload_n 0, 1) := by decide +kernel
theorem dX11_worst_18 : decode cX11_worst 18 = .ok (.ldc 87, 2) := by decide +kernel
theorem dX11_worst_20 : decode cX11_worst 20 = .ok (.invokevirtual 88, 3) := by decide +kernel
theorem dX11_worst_23 : decode cX11_worst 23 = .ok (.ireturn, 1) := by decide +kernel
theorem dX11_worst_24 : decode cX11_worst 24 = .ok (.iconst 0, 1) := by decide +kernel
theorem dX11_worst_25 : decode cX11_worst 25 = .ok (.istore_n 3, 1) := by decide +kernel
theorem dX11_worst_26 : decode cX11_worst 26 = .ok (.iconst 0, 1) := by decide +kernel
theorem dX11_worst_27 : decode cX11_worst 27 = .ok (.istore 4, 2) := by decide +kernel
theorem dX11_worst_29 : decode cX11_worst 29 = .ok (.iload 4, 2) := by decide +kernel
theorem dX11_worst_31 : decode cX11_worst 31 = .ok (.sipush 144, 3) := by decide +kernel
theorem dX11_worst_34 : decode cX11_worst 34 = .ok (.if_icmp .ge 89, 3) := by decide +kernel
theorem dX11_worst_37 : decode cX11_worst 37 = .ok (.aload_n 0, 1) := by decide +kernel
theorem dX11_worst_38 : decode cX11_worst 38 = .ok (.getfield 9, 3) := by decide +kernel
theorem dX11_worst_41 : decode cX11_worst 41 = .ok (.bipush 41, 2) := by decide +kernel
theorem dX11_worst_43 : decode cX11_worst 43 = .ok (.iload 4, 2) := by decide +kernel
theorem dX11_worst_45 : decode cX11_worst 45 = .ok (.iadd, 1) := by decide +kernel
theorem dX11_worst_46 : decode cX11_worst 46 = .ok (.iaload, 1) := by decide +kernel
theorem dX11_worst_47 : decode cX11_worst 47 = .ok (.ifCond .le 33, 3) := by decide +kernel
theorem dX11_worst_50 : decode cX11_worst 50 = .ok (.iload_n 1, 1) := by decide +kernel
theorem dX11_worst_51 : decode cX11_worst 51 = .ok (.iload 4, 2) := by decide +kernel
theorem dX11_worst_53 : decode cX11_worst 53 = .ok (.bipush 12, 2) := by decide +kernel
theorem dX11_worst_55 : decode cX11_worst 55 = .ok (.idiv, 1) := by decide +kernel
theorem dX11_worst_56 : decode cX11_worst 56 = .ok (.invokestatic 195, 3) := by decide +kernel
theorem dX11_worst_59 : decode cX11_worst 59 = .ok (.ifCond .eq 21, 3) := by decide +kernel
theorem dX11_worst_62 : decode cX11_worst 62 = .ok (.aload_n 0, 1) := by decide +kernel
theorem dX11_worst_63 : decode cX11_worst 63 = .ok (.iload 4, 2) := by decide +kernel
theorem dX11_worst_65 : decode cX11_worst 65 = .ok (.bipush 12, 2) := by decide +kernel
theorem dX11_worst_67 : decode cX11_worst 67 = .ok (.idiv, 1) := by decide +kernel
theorem dX11_worst_68 : decode cX11_worst 68 = .ok (.iconst 0, 1) := by decide +kernel
theorem dX11_worst_69 : decode cX11_worst 69 = .ok (.invokevirtual 105, 3) := by decide +kernel
theorem dX11_worst_72 : decode cX11_worst 72 = .ok (.iconst 5, 1) := by decide +kernel
theorem dX11_worst_73 : decode cX11_worst 73 = .ok (.if_icmp .eq 7, 3) := by decide +kernel
theorem dX11_worst_76 : decode cX11_worst 76 = .ok (.iconst 1, 1) := by decide +kernel
theorem dX11_worst_77 : decode cX11_worst 77 = .ok (.goto 4, 3) := by decide +kernel
theorem dX11_worst_80 : decode cX11_worst 80 = .ok (.iconst 0, 1) := by decide +kernel
theorem dX11_worst_81 : decode cX11_worst 81 = .ok (.istore 5, 2) := by decide +kernel
theorem dX11_worst_83 : decode cX11_worst 83 = .ok (.iload 5, 2) := by decide +kernel
theorem dX11_worst_85 : decode cX11_worst 85 = .ok (.ifCond .eq 16, 3) := by decide +kernel
theorem dX11_worst_88 : decode cX11_worst 88 = .ok (.iload_n 3, 1) := by decide +kernel
theorem dX11_worst_89 : decode cX11_worst 89 = .ok (.bipush 8, 2) := by decide +kernel
theorem dX11_worst_91 : decode cX11_worst 91 = .ok (.if_icmp .ne 10, 3) := by decide +kernel
theorem dX11_worst_94 : decode cX11_worst 94 = .ok (.aload_n 0, 1) := by decide +kernel
theorem dX11_worst_95 : decode cX11_worst 95 = .ok (.ldc 92, 2) := by decide +kernel
theorem dX11_worst_97 : decode cX11_worst 97 = .ok (.invokevirtual 88, 3) := by decide +kernel
theorem dX11_worst_100 : decode cX11_worst 100 = .ok (.ireturn, 1) := by decide +kernel
theorem dX11_worst_101 : decode cX11_worst 101 = .ok (.iload 5, 2) := by decide +kernel
theorem dX11_worst_103 : decode cX11_worst 103 = .ok (.ifCond .eq 14, 3) := by decide +kernel
theorem dX11_worst_106 : decode cX11_worst 106 = .ok (.aload_n 0, 1) := by decide +kernel
theorem dX11_worst_107 : decode cX11_worst 107 = .ok (.getfield 58, 3) := by decide +kernel
theorem dX11_worst_110 : decode cX11_worst 110 = .ok (.iload_n 3, 1) := by decide +kernel
theorem dX11_worst_111 : decode cX11_worst 111 = .ok (.iload 4, 2) := by decide +kernel
theorem dX11_worst_113 : decode cX11_worst 113 = .ok (.iastore, 1) := by decide +kernel
theorem dX11_worst_114 : decode cX11_worst 114 = .ok (.iinc 3 1, 3) := by decide +kernel
theorem dX11_worst_117 : decode cX11_worst 117 = .ok (.iinc 4 1, 3) := by decide +kernel
theorem dX11_worst_120 : decode cX11_worst 120 = .ok (.goto (-91), 3) := by decide +kernel
theorem dX11_worst_123 : decode cX11_worst 123 = .ok (.iconst 0, 1) := by decide +kernel
theorem dX11_worst_124 : decode cX11_worst 124 = .ok (.istore 4, 2) := by decide +kernel
theorem dX11_worst_126 : decode cX11_worst 126 = .ok (.iload 4, 2) := by decide +kernel
theorem dX11_worst_128 : decode cX11_worst 128 = .ok (.iconst 1, 1) := by decide +kernel
theorem dX11_worst_129 : decode cX11_worst 129 = .ok (.iload_n 3, 1) := by decide +kernel
theorem dX11_worst_130 : decode cX11_worst 130 = .ok (.ishl, 1) := by decide +kernel
theorem dX11_worst_131 : decode cX11_worst 131 = .ok (.if_icmp .ge 34, 3) := by decide +kernel
theorem dX11_worst_134 : decode cX11_worst 134 = .ok (.aload_n 0, 1) := by decide +kernel
theorem dX11_worst_135 : decode cX11_worst 135 = .ok (.getfield 61, 3) := by decide +kernel
theorem dX11_worst_138 : decode cX11_worst 138 = .ok (.iload 4, 2) := by decide +kernel
theorem dX11_worst_140 : decode cX11_worst 140 = .ok (.aload_n 0, 1) := by decide +kernel
theorem dX11_worst_141 : decode cX11_worst 141 = .ok (.iload_n 1, 1) := by decide +kernel
theorem dX11_worst_142 : decode cX11_worst 142 = .ok (.iload_n 3, 1) := by decide +kernel
theorem dX11_worst_143 : decode cX11_worst 143 = .ok (.iload 4, 2) := by decide +kernel
theorem dX11_worst_145 : decode cX11_worst 145 = .ok (.invokevirtual 262, 3) := by decide +kernel
theorem dX11_worst_148 : decode cX11_worst 148 = .ok (.ifCond .eq 7, 3) := by decide +kernel
theorem dX11_worst_151 : decode cX11_worst 151 = .ok (.iconst 0, 1) := by decide +kernel
theorem dX11_worst_152 : decode cX11_worst 152 = .ok (.goto 6, 3) := by decide +kernel
theorem dX11_worst_155 : decode cX11_worst 155 = .ok (.sipush (-4096), 3) := by decide +kernel
theorem dX11_worst_158 : decode cX11_worst 158 = .ok (.iastore, 1) := by decide +kernel
theorem dX11_worst_159 : decode cX11_worst 159 = .ok (.iinc 4 1, 3) := by decide +kernel
theorem dX11_worst_162 : decode cX11_worst 162 = .ok (.goto (-36), 3) := by decide +kernel
theorem dX11_worst_165 : decode cX11_worst 165 = .ok (.iconst 0, 1) := by decide +kernel
theorem dX11_worst_166 : decode cX11_worst 166 = .ok (.istore 4, 2) := by decide +kernel
theorem dX11_worst_168 : decode cX11_worst 168 = .ok (.iload 4, 2) := by decide +kernel
theorem dX11_worst_170 : decode cX11_worst 170 = .ok (.aload_n 0, 1) := by decide +kernel
theorem dX11_worst_171 : decode cX11_worst 171 = .ok (.invokevirtual 192, 3) := by decide +kernel
theorem dX11_worst_174 : decode cX11_worst 174 = .ok (.if_icmp .gt 87, 3) := by decide +kernel
theorem dX11_worst_177 : decode cX11_worst 177 = .ok (.iload 4, 2) := by decide +kernel
theorem dX11_worst_179 : decode cX11_worst 179 = .ok (.invokestatic 202, 3) := by decide +kernel
theorem dX11_worst_182 : decode cX11_worst 182 = .ok (.aload_n 0, 1) := by decide +kernel
theorem dX11_worst_183 : decode cX11_worst 183 = .ok (.getfield 9, 3) := by decide +kernel
theorem dX11_worst_186 : decode cX11_worst 186 = .ok (.iconst 2, 1) := by decide +kernel
theorem dX11_worst_187 : decode cX11_worst 187 = .ok (.iaload, 1) := by decide +kernel
theorem dX11_worst_188 : decode cX11_worst 188 = .ok (.if_icmp .gt 67, 3) := by decide +kernel
theorem dX11_worst_191 : decode cX11_worst 191 = .ok (.aload_n 0, 1) := by decide +kernel
theorem dX11_worst_192 : decode cX11_worst 192 = .ok (.iload 4, 2) := by decide +kernel
theorem dX11_worst_194 : decode cX11_worst 194 = .ok (.iload_n 1, 1) := by decide +kernel
theorem dX11_worst_195 : decode cX11_worst 195 = .ok (.invokevirtual 265, 3) := by decide +kernel
theorem dX11_worst_198 : decode cX11_worst 198 = .ok (.ifCond .eq 57, 3) := by decide +kernel
theorem dX11_worst_201 : decode cX11_worst 201 = .ok (.iconst 0, 1) := by decide +kernel
theorem dX11_worst_202 : decode cX11_worst 202 = .ok (.istore 5, 2) := by decide +kernel
theorem dX11_worst_204 : decode cX11_worst 204 = .ok (.iload 5, 2) := by decide +kernel
theorem dX11_worst_206 : decode cX11_worst 206 = .ok (.iconst 1, 1) := by decide +kernel
theorem dX11_worst_207 : decode cX11_worst 207 = .ok (.iload_n 3, 1) := by decide +kernel
theorem dX11_worst_208 : decode cX11_worst 208 = .ok (.ishl, 1) := by decide +kernel
theorem dX11_worst_209 : decode cX11_worst 209 = .ok (.if_icmp .ge 46, 3) := by decide +kernel
theorem dX11_worst_212 : decode cX11_worst 212 = .ok (.aload_n 0, 1) := by decide +kernel
theorem dX11_worst_213 : decode cX11_worst 213 = .ok (.getfield 61, 3) := by decide +kernel
theorem dX11_worst_216 : decode cX11_worst 216 = .ok (.iload 5, 2) := by decide +kernel
theorem dX11_worst_218 : decode cX11_worst 218 = .ok (.dup2, 1) := by decide +kernel
theorem dX11_worst_219 : decode cX11_worst 219 = .ok (.iaload, 1) := by decide +kernel
theorem dX11_worst_220 : decode cX11_worst 220 = .ok (.aload_n 0, 1) := by decide +kernel
theorem dX11_worst_221 : decode cX11_worst 221 = .ok (.getfield 61, 3) := by decide +kernel
theorem dX11_worst_224 : decode cX11_worst 224 = .ok (.iload 5, 2) := by decide +kernel
theorem dX11_worst_226 : decode cX11_worst 226 = .ok (.iaload, 1) := by decide +kernel
theorem dX11_worst_227 : decode cX11_worst 227 = .ok (.ifCond .lt 19, 3) := by decide +kernel
theorem dX11_worst_230 : decode cX11_worst 230 = .ok (.aload_n 0, 1) := by decide +kernel
theorem dX11_worst_231 : decode cX11_worst 231 = .ok (.iload 4, 2) := by decide +kernel
theorem dX11_worst_233 : decode cX11_worst 233 = .ok (.iload_n 3, 1) := by decide +kernel
theorem dX11_worst_234 : decode cX11_worst 234 = .ok (.iload 5, 2) := by decide +kernel
theorem dX11_worst_236 : decode cX11_worst 236 = .ok (.invokevirtual 262, 3) := by decide +kernel
theorem dX11_worst_239 : decode cX11_worst 239 = .ok (.ifCond .eq 7, 3) := by decide +kernel
theorem dX11_worst_242 : decode cX11_worst 242 = .ok (.iconst 1, 1) := by decide +kernel
theorem dX11_worst_243 : decode cX11_worst 243 = .ok (.goto 4, 3) := by decide +kernel
theorem dX11_worst_246 : decode cX11_worst 246 = .ok (.iconst 0, 1) := by decide +kernel
theorem dX11_worst_247 : decode cX11_worst 247 = .ok (.iadd, 1) := by decide +kernel
theorem dX11_worst_248 : decode cX11_worst 248 = .ok (.iastore, 1) := by decide +kernel
theorem dX11_worst_249 : decode cX11_worst 249 = .ok (.iinc 5 1, 3) := by decide +kernel
theorem dX11_worst_252 : decode cX11_worst 252 = .ok (.goto (-48), 3) := by decide +kernel
theorem dX11_worst_255 : decode cX11_worst 255 = .ok (.iinc 4 1, 3) := by decide +kernel
theorem dX11_worst_258 : decode cX11_worst 258 = .ok (.goto (-90), 3) := by decide +kernel
theorem dX11_worst_261 : decode cX11_worst 261 = .ok (.iconst (-1), 1) := by decide +kernel
theorem dX11_worst_262 : decode cX11_worst 262 = .ok (.istore 4, 2) := by decide +kernel
theorem dX11_worst_264 : decode cX11_worst 264 = .ok (.iconst 0, 1) := by decide +kernel
theorem dX11_worst_265 : decode cX11_worst 265 = .ok (.istore 5, 2) := by decide +kernel
theorem dX11_worst_267 : decode cX11_worst 267 = .ok (.iload 5, 2) := by decide +kernel
theorem dX11_worst_269 : decode cX11_worst 269 = .ok (.iconst 1, 1) := by decide +kernel
theorem dX11_worst_270 : decode cX11_worst 270 = .ok (.iload_n 3, 1) := by decide +kernel
theorem dX11_worst_271 : decode cX11_worst 271 = .ok (.ishl, 1) := by decide +kernel
theorem dX11_worst_272 : decode cX11_worst 272 = .ok (.if_icmp .ge 50, 3) := by decide +kernel
theorem dX11_worst_275 : decode cX11_worst 275 = .ok (.aload_n 0, 1) := by decide +kernel
theorem dX11_worst_276 : decode cX11_worst 276 = .ok (.getfield 61, 3) := by decide +kernel
theorem dX11_worst_279 : decode cX11_worst 279 = .ok (.iload 5, 2) := by decide +kernel
theorem dX11_worst_281 : decode cX11_worst 281 = .ok (.iaload, 1) := by decide +kernel
theorem dX11_worst_282 : decode cX11_worst 282 = .ok (.ifCond .lt 30, 3) := by decide +kernel
theorem dX11_worst_285 : decode cX11_worst 285 = .ok (.iload 4, 2) := by decide +kernel
theorem dX11_worst_287 : decode cX11_worst 287 = .ok (.ifCond .lt 20, 3) := by decide +kernel
theorem dX11_worst_290 : decode cX11_worst 290 = .ok (.aload_n 0, 1) := by decide +kernel
theorem dX11_worst_291 : decode cX11_worst 291 = .ok (.getfield 61, 3) := by decide +kernel
theorem dX11_worst_294 : decode cX11_worst 294 = .ok (.iload 5, 2) := by decide +kernel
theorem dX11_worst_296 : decode cX11_worst 296 = .ok (.iaload, 1) := by decide +kernel
theorem dX11_worst_297 : decode cX11_worst 297 = .ok (.aload_n 0, 1) := by decide +kernel
theorem dX11_worst_298 : decode cX11_worst 298 = .ok (.getfield 61, 3) := by decide +kernel
theorem dX11_worst_301 : decode cX11_worst 301 = .ok (.iload 4, 2) := by decide +kernel
theorem dX11_worst_303 : decode cX11_worst 303 = .ok (.iaload, 1) := by decide +kernel
theorem dX11_worst_304 : decode cX11_worst 304 = .ok (.if_icmp .le 8, 3) := by decide +kernel
theorem dX11_worst_307 : decode cX11_worst 307 = .ok (.iload 5, 2) := by decide +kernel
theorem dX11_worst_309 : decode cX11_worst 309 = .ok (.goto 5, 3) := by decide +kernel
theorem dX11_worst_312 : decode cX11_worst 312 = .ok (.iload 4, 2) := by decide +kernel
theorem dX11_worst_314 : decode cX11_worst 314 = .ok (.istore 4, 2) := by decide +kernel
theorem dX11_worst_316 : decode cX11_worst 316 = .ok (.iinc 5 1, 3) := by decide +kernel
theorem dX11_worst_319 : decode cX11_worst 319 = .ok (.goto (-52), 3) := by decide +kernel
theorem dX11_worst_322 : decode cX11_worst 322 = .ok (.iload_n 2, 1) := by decide +kernel
theorem dX11_worst_323 : decode cX11_worst 323 = .ok (.ifCond .ne 13, 3) := by decide +kernel
theorem dX11_worst_326 : decode cX11_worst 326 = .ok (.aload_n 0, 1) := by decide +kernel
theorem dX11_worst_327 : decode cX11_worst 327 = .ok (.getfield 61, 3) := by decide +kernel
theorem dX11_worst_330 : decode cX11_worst 330 = .ok (.iload 4, 2) := by decide +kernel
theorem dX11_worst_332 : decode cX11_worst 332 = .ok (.iaload, 1) := by decide +kernel
theorem dX11_worst_333 : decode cX11_worst 333 = .ok (.goto 5, 3) := by decide +kernel
theorem dX11_worst_336 : decode cX11_worst 336 = .ok (.iload 4, 2) := by decide +kernel
theorem dX11_worst_338 : decode cX11_worst 338 = .ok (.ireturn, 1) := by decide +kernel
theorem dX11_mend_0 : decode cX11_mend 0 = .ok (.iload_n 1, 1) := by decide +kernel
theorem dX11_mend_1 : decode cX11_mend 1 = .ok (.iconst 0, 1) := by decide +kernel
theorem dX11_mend_2 : decode cX11_mend 2 = .ok (.sipush 9999, 3) := by decide +kernel
theorem dX11_mend_5 : decode cX11_mend 5 = .ok (.invokestatic 83, 3) := by decide +kernel
theorem dX11_mend_8 : decode cX11_mend 8 = .ok (.ifCond .ne 10, 3) := by decide +kernel
theorem dX11_mend_11 : decode cX11_mend 11 = .ok (.aload_n 0, 1) := by decide +kernel
theorem dX11_mend_12 : decode cX11_mend 12 = .ok (.ldc 87, 2) := by decide +kernel
theorem dX11_mend_14 : decode cX11_mend 14 = .ok (.invokevirtual 88, 3) := by decide +kernel
theorem dX11_mend_17 : decode cX11_mend 17 = .ok (.ireturn, 1) := by decide +kernel
theorem dX11_mend_18 : decode cX11_mend 18 = .ok (.iconst 0, 1) := by decide +kernel
theorem dX11_mend_19 : decode cX11_mend 19 = .ok (.istore_n 2, 1) := by decide +kernel
theorem dX11_mend_20 : decode cX11_mend 20 = .ok (.iload_n 2, 1) := by decide +kernel
theorem dX11_mend_21 : decode cX11_mend 21 = .ok (.aload_n 0, 1) := by decide +kernel
theorem dX11_mend_22 : decode cX11_mend 22 = .ok (.invokevirtual 192, 3) := by decide +kernel
theorem dX11_mend_25 : decode cX11_mend 25 = .ok (.if_icmp .gt 28, 3) := by decide +kernel
theorem dX11_mend_28 : decode cX11_mend 28 = .ok (.aload_n 0, 1) := by decide +kernel
theorem dX11_mend_29 : decode cX11_mend 29 = .ok (.getfield 64, 3) := by decide +kernel
theorem dX11_mend_32 : decode cX11_mend 32 = .ok (.iload_n 2, 1) := by decide +kernel
theorem dX11_mend_33 : decode cX11_mend 33 = .ok (.aload_n 0, 1) := by decide +kernel
theorem dX11_mend_34 : decode cX11_mend 34 = .ok (.iload_n 2, 1) := by decide +kernel
theorem dX11_mend_35 : decode cX11_mend 35 = .ok (.invokevirtual 210, 3) := by decide +kernel
theorem dX11_mend_38 : decode cX11_mend 38 = .ok (.ifCond .ge 7, 3) := by decide +kernel
theorem dX11_mend_41 : decode cX11_mend 41 = .ok (.iconst 1, 1) := by decide +kernel
theorem dX11_mend_42 : decode cX11_mend 42 = .ok (.goto 4, 3) := by decide +kernel
theorem dX11_mend_45 : decode cX11_mend 45 = .ok (.iconst 0, 1) := by decide +kernel
theorem dX11_mend_46 : decode cX11_mend 46 = .ok (.iastore, 1) := by decide +kernel
theorem dX11_mend_47 : decode cX11_mend 47 = .ok (.iinc 2 1, 3) := by decide +kernel
theorem dX11_mend_50 : decode cX11_mend 50 = .ok (.goto (-30), 3) := by decide +kernel
theorem dX11_mend_53 : decode cX11_mend 53 = .ok (.iconst 0, 1) := by decide +kernel
theorem dX11_mend_54 : decode cX11_mend 54 = .ok (.istore_n 2, 1) := by decide +kernel
theorem dX11_mend_55 : decode cX11_mend 55 = .ok (.iload_n 2, 1) := by decide +kernel
theorem dX11_mend_56 : decode cX11_mend 56 = .ok (.aload_n 0, 1) := by decide +kernel
theorem dX11_mend_57 : decode cX11_mend 57 = .ok (.getfield 9, 3) := by decide +kernel
theorem dX11_mend_60 : decode cX11_mend 60 = .ok (.iconst 0, 1) := by decide +kernel
theorem dX11_mend_61 : decode cX11_mend 61 = .ok (.iaload, 1) := by decide +kernel
theorem dX11_mend_62 : decode cX11_mend 62 = .ok (.if_icmp .ge 58, 3) := by decide +kernel
theorem dX11_mend_65 : decode cX11_mend 65 = .ok (.iconst 0, 1) := by decide +kernel
theorem dX11_mend_66 : decode cX11_mend 66 = .ok (.istore_n 3, 1) := by decide +kernel
theorem dX11_mend_67 : decode cX11_mend 67 = .ok (.iload_n 3, 1) := by decide +kernel
theorem dX11_mend_68 : decode cX11_mend 68 = .ok (.aload_n 0, 1) := by decide +kernel
theorem dX11_mend_69 : decode cX11_mend 69 = .ok (.invokevirtual 192, 3) := by decide +kernel
theorem dX11_mend_72 : decode cX11_mend 72 = .ok (.if_icmp .gt 42, 3) := by decide +kernel
theorem dX11_mend_75 : decode cX11_mend 75 = .ok (.aload_n 0, 1) := by decide +kernel
theorem dX11_mend_76 : decode cX11_mend 76 = .ok (.getfield 64, 3) := by decide +kernel
theorem dX11_mend_79 : decode cX11_mend 79 = .ok (.iload_n 3, 1) := by decide +kernel
theorem dX11_mend_80 : decode cX11_mend 80 = .ok (.dup2, 1) := by decide +kernel
theorem dX11_mend_81 : decode cX11_mend 81 = .ok (.iaload, 1) := by decide +kernel
theorem dX11_mend_82 : decode cX11_mend 82 = .ok (.iload_n 3, 1) := by decide +kernel
theorem dX11_mend_83 : decode cX11_mend 83 = .ok (.iload_n 2, 1) := by decide +kernel
theorem dX11_mend_84 : decode cX11_mend 84 = .ok (.invokestatic 195, 3) := by decide +kernel
theorem dX11_mend_87 : decode cX11_mend 87 = .ok (.ifCond .eq 18, 3) := by decide +kernel
theorem dX11_mend_90 : decode cX11_mend 90 = .ok (.aload_n 0, 1) := by decide +kernel
theorem dX11_mend_91 : decode cX11_mend 91 = .ok (.getfield 64, 3) := by decide +kernel
theorem dX11_mend_94 : decode cX11_mend 94 = .ok (.iload_n 3, 1) := by decide +kernel
theorem dX11_mend_95 : decode cX11_mend 95 = .ok (.iconst 1, 1) := by decide +kernel
theorem dX11_mend_96 : decode cX11_mend 96 = .ok (.iload_n 2, 1) := by decide +kernel
theorem dX11_mend_97 : decode cX11_mend 97 = .ok (.ishl, 1) := by decide +kernel
theorem dX11_mend_98 : decode cX11_mend 98 = .ok (.iconst (-1), 1) := by decide +kernel
theorem dX11_mend_99 : decode cX11_mend 99 = .ok (.ixor, 1) := by decide +kernel
theorem dX11_mend_100 : decode cX11_mend 100 = .ok (.iand, 1) := by decide +kernel
theorem dX11_mend_101 : decode cX11_mend 101 = .ok (.iaload, 1) := by decide +kernel
theorem dX11_mend_102 : decode cX11_mend 102 = .ok (.goto 4, 3) := by decide +kernel
theorem dX11_mend_105 : decode cX11_mend 105 = .ok (.iconst 0, 1) := by decide +kernel
theorem dX11_mend_106 : decode cX11_mend 106 = .ok (.iadd, 1) := by decide +kernel
theorem dX11_mend_107 : decode cX11_mend 107 = .ok (.iastore, 1) := by decide +kernel
theorem dX11_mend_108 : decode cX11_mend 108 = .ok (.iinc 3 1, 3) := by decide +kernel
theorem dX11_mend_111 : decode cX11_mend 111 = .ok (.goto (-44), 3) := by decide +kernel
theorem dX11_mend_114 : decode cX11_mend 114 = .ok (.iinc 2 1, 3) := by decide +kernel
theorem dX11_mend_117 : decode cX11_mend 117 = .ok (.goto (-62), 3) := by decide +kernel
theorem dX11_mend_120 : decode cX11_mend 120 = .ok (.iconst 0, 1) := by decide +kernel
theorem dX11_mend_121 : decode cX11_mend 121 = .ok (.istore_n 2, 1) := by decide +kernel
theorem dX11_mend_122 : decode cX11_mend 122 = .ok (.iconst 1, 1) := by decide +kernel
theorem dX11_mend_123 : decode cX11_mend 123 = .ok (.istore_n 3, 1) := by decide +kernel
theorem dX11_mend_124 : decode cX11_mend 124 = .ok (.iload_n 3, 1) := by decide +kernel
theorem dX11_mend_125 : decode cX11_mend 125 = .ok (.aload_n 0, 1) := by decide +kernel
theorem dX11_mend_126 : decode cX11_mend 126 = .ok (.invokevirtual 192, 3) := by decide +kernel
theorem dX11_mend_129 : decode cX11_mend 129 = .ok (.if_icmp .gt 80, 3) := by decide +kernel
theorem dX11_mend_132 : decode cX11_mend 132 = .ok (.aload_n 0, 1) := by decide +kernel
theorem dX11_mend_133 : decode cX11_mend 133 = .ok (.iload_n 3, 1) := by decide +kernel
theorem dX11_mend_134 : decode cX11_mend 134 = .ok (.invokevirtual 268, 3) := by decide +kernel
theorem dX11_mend_137 : decode cX11_mend 137 = .ok (.istore 4, 2) := by decide +kernel
theorem dX11_mend_139 : decode cX11_mend 139 = .ok (.aload_n 0, 1) := by decide +kernel
theorem dX11_mend_140 : decode cX11_mend 140 = .ok (.getfield 64, 3) := by decide +kernel
theorem dX11_mend_143 : decode cX11_mend 143 = .ok (.iload_n 3, 1) := by decide +kernel
theorem dX11_mend_144 : decode cX11_mend 144 = .ok (.iaload, 1) := by decide +kernel
theorem dX11_mend_145 : decode cX11_mend 145 = .ok (.aload_n 0, 1) := by decide +kernel
theorem dX11_mend_146 : decode cX11_mend 146 = .ok (.getfield 64, 3) := by decide +kernel
theorem dX11_mend_149 : decode cX11_mend 149 = .ok (.iload_n 2, 1) := by decide +kernel
theorem dX11_mend_150 : decode cX11_mend 150 = .ok (.iaload, 1) := by decide +kernel
theorem dX11_mend_151 : decode cX11_mend 151 = .ok (.if_icmp .gt 28, 3) := by decide +kernel
theorem dX11_mend_154 : decode cX11_mend 154 = .ok (.aload_n 0, 1) := by decide +kernel
theorem dX11_mend_155 : decode cX11_mend 155 = .ok (.getfield 64, 3) := by decide +kernel
theorem dX11_mend_158 : decode cX11_mend 158 = .ok (.iload_n 3, 1) := by decide +kernel
theorem dX11_mend_159 : decode cX11_mend 159 = .ok (.iaload, 1) := by decide +kernel
theorem dX11_mend_160 : decode cX11_mend 160 = .ok (.aload_n 0, 1) := by decide +kernel
theorem dX11_mend_161 : decode cX11_mend 161 = .ok (.getfield 64, 3) := by decide +kernel
theorem dX11_mend_164 : decode cX11_mend 164 = .ok (.iload_n 2, 1) := by decide +kernel
theorem dX11_mend_165 : decode cX11_mend 165 = .ok (.iaload, 1) := by decide +kernel
theorem dX11_mend_166 : decode cX11_mend 166 = .ok (.if_icmp .ne 17, 3) := by decide +kernel
theorem dX11_mend_169 : decode cX11_mend 169 = .ok (.iload 4, 2) := by decide +kernel
theorem dX11_mend_171 : decode cX11_mend 171 = .ok (.aload_n 0, 1) := by decide +kernel
theorem dX11_mend_172 : decode cX11_mend 172 = .ok (.iload_n 2, 1) := by decide +kernel
theorem dX11_mend_173 : decode cX11_mend 173 = .ok (.invokevirtual 268, 3) := by decide +kernel
theorem dX11_mend_176 : decode cX11_mend 176 = .ok (.if_icmp .ge 7, 3) := by decide +kernel
theorem dX11_mend_179 : decode cX11_mend 179 = .ok (.iconst 1, 1) := by decide +kernel
theorem dX11_mend_180 : decode cX11_mend 180 = .ok (.goto 4, 3) := by decide +kernel
theorem dX11_mend_183 : decode cX11_mend 183 = .ok (.iconst 0, 1) := by decide +kernel
theorem dX11_mend_184 : decode cX11_mend 184 = .ok (.istore 5, 2) := by decide +kernel
theorem dX11_mend_186 : decode cX11_mend 186 = .ok (.iload 4, 2) := by decide +kernel
theorem dX11_mend_188 : decode cX11_mend 188 = .ok (.iload_n 1, 1) := by decide +kernel
theorem dX11_mend_189 : decode cX11_mend 189 = .ok (.if_icmp .gt 12, 3) := by decide +kernel
theorem dX11_mend_192 : decode cX11_mend 192 = .ok (.iload 5, 2) := by decide +kernel
theorem dX11_mend_194 : decode cX11_mend 194 = .ok (.ifCond .eq 7, 3) := by decide +kernel
theorem dX11_mend_197 : decode cX11_mend 197 = .ok (.iload_n 3, 1) := by decide +kernel
theorem dX11_mend_198 : decode cX11_mend 198 = .ok (.goto 4, 3) := by decide +kernel
theorem dX11_mend_201 : decode cX11_mend 201 = .ok (.iload_n 2, 1) := by decide +kernel
theorem dX11_mend_202 : decode cX11_mend 202 = .ok (.istore_n 2, 1) := by decide +kernel
theorem dX11_mend_203 : decode cX11_mend 203 = .ok (.iinc 3 1, 3) := by decide +kernel
theorem dX11_mend_206 : decode cX11_mend 206 = .ok (.goto (-82), 3) := by decide +kernel
theorem dX11_mend_209 : decode cX11_mend 209 = .ok (.iload_n 2, 1) := by decide +kernel
theorem dX11_mend_210 : decode cX11_mend 210 = .ok (.ireturn, 1) := by decide +kernel
theorem dX11_priceOf_0 : decode cX11_priceOf 0 = .ok (.iconst 0, 1) := by decide +kernel
theorem dX11_priceOf_1 : decode cX11_priceOf 1 = .ok (.istore_n 2, 1) := by decide +kernel
theorem dX11_priceOf_2 : decode cX11_priceOf 2 = .ok (.iconst 0, 1) := by decide +kernel
theorem dX11_priceOf_3 : decode cX11_priceOf 3 = .ok (.istore_n 3, 1) := by decide +kernel
theorem dX11_priceOf_4 : decode cX11_priceOf 4 = .ok (.iload_n 3, 1) := by decide +kernel
theorem dX11_priceOf_5 : decode cX11_priceOf 5 = .ok (.aload_n 0, 1) := by decide +kernel
theorem dX11_priceOf_6 : decode cX11_priceOf 6 = .ok (.getfield 9, 3) := by decide +kernel
theorem dX11_priceOf_9 : decode cX11_priceOf 9 = .ok (.iconst 0, 1) := by decide +kernel
theorem dX11_priceOf_10 : decode cX11_priceOf 10 = .ok (.iaload, 1) := by decide +kernel
theorem dX11_priceOf_11 : decode cX11_priceOf 11 = .ok (.if_icmp .ge 30, 3) := by decide +kernel
theorem dX11_priceOf_14 : decode cX11_priceOf 14 = .ok (.iload_n 2, 1) := by decide +kernel
theorem dX11_priceOf_15 : decode cX11_priceOf 15 = .ok (.iload_n 1, 1) := by decide +kernel
theorem dX11_priceOf_16 : decode cX11_priceOf 16 = .ok (.iload_n 3, 1) := by decide +kernel
theorem dX11_priceOf_17 : decode cX11_priceOf 17 = .ok (.invokestatic 195, 3) := by decide +kernel
theorem dX11_priceOf_20 : decode cX11_priceOf 20 = .ok (.ifCond .eq 12, 3) := by decide +kernel
theorem dX11_priceOf_23 : decode cX11_priceOf 23 = .ok (.aload_n 0, 1) := by decide +kernel
theorem dX11_priceOf_24 : decode cX11_priceOf 24 = .ok (.iload_n 3, 1) := by decide +kernel
theorem dX11_priceOf_25 : decode cX11_priceOf 25 = .ok (.iconst 1, 1) := by decide +kernel
theorem dX11_priceOf_26 : decode cX11_priceOf 26 = .ok (.invokevirtual 105, 3) := by decide +kernel
theorem dX11_priceOf_29 : decode cX11_priceOf 29 = .ok (.goto 4, 3) := by decide +kernel
theorem dX11_priceOf_32 : decode cX11_priceOf 32 = .ok (.iconst 0, 1) := by decide +kernel
theorem dX11_priceOf_33 : decode cX11_priceOf 33 = .ok (.iadd, 1) := by decide +kernel
theorem dX11_priceOf_34 : decode cX11_priceOf 34 = .ok (.istore_n 2, 1) := by decide +kernel
theorem dX11_priceOf_35 : decode cX11_priceOf 35 = .ok (.iinc 3 1, 3) := by decide +kernel
theorem dX11_priceOf_38 : decode cX11_priceOf 38 = .ok (.goto (-34), 3) := by decide +kernel
theorem dX11_priceOf_41 : decode cX11_priceOf 41 = .ok (.iload_n 2, 1) := by decide +kernel
theorem dX11_priceOf_42 : decode cX11_priceOf 42 = .ok (.ireturn, 1) := by decide +kernel
theorem dX11_mended_0 : decode cX11_mended 0 = .ok (.aload_n 0, 1) := by decide +kernel
theorem dX11_mended_1 : decode cX11_mended 1 = .ok (.iload_n 1, 1) := by decide +kernel
theorem dX11_mended_2 : decode cX11_mended 2 = .ok (.iconst 0, 1) := by decide +kernel
theorem dX11_mended_3 : decode cX11_mended 3 = .ok (.invokevirtual 101, 3) := by decide +kernel
theorem dX11_mended_6 : decode cX11_mended 6 = .ok (.ifCond .ne 10, 3) := by decide +kernel
theorem dX11_mended_9 : decode cX11_mended 9 = .ok (.aload_n 0, 1) := by decide +kernel
theorem dX11_mended_10 : decode cX11_mended 10 = .ok (.ldc 87, 2) := by decide +kernel
theorem dX11_mended_12 : decode cX11_mended 12 = .ok (.invokevirtual 88, 3) := by decide +kernel
theorem dX11_mended_15 : decode cX11_mended 15 = .ok (.ireturn, 1) := by decide +kernel
theorem dX11_mended_16 : decode cX11_mended 16 = .ok (.iconst 0, 1) := by decide +kernel
theorem dX11_mended_17 : decode cX11_mended 17 = .ok (.istore_n 2, 1) := by decide +kernel
theorem dX11_mended_18 : decode cX11_mended 18 = .ok (.iconst 0, 1) := by decide +kernel
theorem dX11_mended_19 : decode cX11_mended 19 = .ok (.istore_n 3, 1) := by decide +kernel
theorem dX11_mended_20 : decode cX11_mended 20 = .ok (.iload_n 3, 1) := by decide +kernel
theorem dX11_mended_21 : decode cX11_mended 21 = .ok (.aload_n 0, 1) := by decide +kernel
theorem dX11_mended_22 : decode cX11_mended 22 = .ok (.getfield 9, 3) := by decide +kernel
theorem dX11_mended_25 : decode cX11_mended 25 = .ok (.iconst 1, 1) := by decide +kernel
theorem dX11_mended_26 : decode cX11_mended 26 = .ok (.iaload, 1) := by decide +kernel
theorem dX11_mended_27 : decode cX11_mended 27 = .ok (.if_icmp .ge 55, 3) := by decide +kernel
theorem dX11_mended_30 : decode cX11_mended 30 = .ok (.aload_n 0, 1) := by decide +kernel
theorem dX11_mended_31 : decode cX11_mended 31 = .ok (.iload_n 3, 1) := by decide +kernel
theorem dX11_mended_32 : decode cX11_mended 32 = .ok (.invokevirtual 111, 3) := by decide +kernel
theorem dX11_mended_35 : decode cX11_mended 35 = .ok (.ifCond .eq 41, 3) := by decide +kernel
theorem dX11_mended_38 : decode cX11_mended 38 = .ok (.aload_n 0, 1) := by decide +kernel
theorem dX11_mended_39 : decode cX11_mended 39 = .ok (.iload_n 3, 1) := by decide +kernel
theorem dX11_mended_40 : decode cX11_mended 40 = .ok (.iconst 0, 1) := by decide +kernel
theorem dX11_mended_41 : decode cX11_mended 41 = .ok (.invokevirtual 97, 3) := by decide +kernel
theorem dX11_mended_44 : decode cX11_mended 44 = .ok (.iload_n 1, 1) := by decide +kernel
theorem dX11_mended_45 : decode cX11_mended 45 = .ok (.if_icmp .eq 13, 3) := by decide +kernel
theorem dX11_mended_48 : decode cX11_mended 48 = .ok (.aload_n 0, 1) := by decide +kernel
theorem dX11_mended_49 : decode cX11_mended 49 = .ok (.iload_n 3, 1) := by decide +kernel
theorem dX11_mended_50 : decode cX11_mended 50 = .ok (.iconst 1, 1) := by decide +kernel
theorem dX11_mended_51 : decode cX11_mended 51 = .ok (.invokevirtual 97, 3) := by decide +kernel
theorem dX11_mended_54 : decode cX11_mended 54 = .ok (.iload_n 1, 1) := by decide +kernel
theorem dX11_mended_55 : decode cX11_mended 55 = .ok (.if_icmp .ne 21, 3) := by decide +kernel
theorem dX11_mended_58 : decode cX11_mended 58 = .ok (.aload_n 0, 1) := by decide +kernel
theorem dX11_mended_59 : decode cX11_mended 59 = .ok (.getfield 9, 3) := by decide +kernel
theorem dX11_mended_62 : decode cX11_mended 62 = .ok (.sipush 185, 3) := by decide +kernel
theorem dX11_mended_65 : decode cX11_mended 65 = .ok (.iconst 4, 1) := by decide +kernel
theorem dX11_mended_66 : decode cX11_mended 66 = .ok (.iload_n 3, 1) := by decide +kernel
theorem dX11_mended_67 : decode cX11_mended 67 = .ok (.imul, 1) := by decide +kernel
theorem dX11_mended_68 : decode cX11_mended 68 = .ok (.iadd, 1) := by decide +kernel
theorem dX11_mended_69 : decode cX11_mended 69 = .ok (.iconst 3, 1) := by decide +kernel
theorem dX11_mended_70 : decode cX11_mended 70 = .ok (.iadd, 1) := by decide +kernel
theorem dX11_mended_71 : decode cX11_mended 71 = .ok (.iconst 0, 1) := by decide +kernel
theorem dX11_mended_72 : decode cX11_mended 72 = .ok (.iastore, 1) := by decide +kernel
theorem dX11_mended_73 : decode cX11_mended 73 = .ok (.iinc 2 1, 3) := by decide +kernel
theorem dX11_mended_76 : decode cX11_mended 76 = .ok (.iinc 3 1, 3) := by decide +kernel
theorem dX11_mended_79 : decode cX11_mended 79 = .ok (.goto (-59), 3) := by decide +kernel
theorem dX11_mended_82 : decode cX11_mended 82 = .ok (.iload_n 2, 1) := by decide +kernel
theorem dX11_mended_83 : decode cX11_mended 83 = .ok (.ireturn, 1) := by decide +kernel
theorem dX11_began_0 : decode cX11_began 0 = .ok (.aload_n 0, 1) := by decide +kernel
theorem dX11_began_1 : decode cX11_began 1 = .ok (.getfield 271, 3) := by decide +kernel
theorem dX11_began_4 : decode cX11_began 4 = .ok (.bipush 30, 2) := by decide +kernel
theorem dX11_began_6 : decode cX11_began 6 = .ok (.if_icmp .ge 23, 3) := by decide +kernel
theorem dX11_began_9 : decode cX11_began 9 = .ok (.aload_n 0, 1) := by decide +kernel
theorem dX11_began_10 : decode cX11_began 10 = .ok (.getfield 67, 3) := by decide +kernel
theorem dX11_began_13 : decode cX11_began 13 = .ok (.aload_n 0, 1) := by decide +kernel
theorem dX11_began_14 : decode cX11_began 14 = .ok (.getfield 271, 3) := by decide +kernel
theorem dX11_began_17 : decode cX11_began 17 = .ok (.iload_n 1, 1) := by decide +kernel
theorem dX11_began_18 : decode cX11_began 18 = .ok (.iastore, 1) := by decide +kernel
theorem dX11_began_19 : decode cX11_began 19 = .ok (.aload_n 0, 1) := by decide +kernel
theorem dX11_began_20 : decode cX11_began 20 = .ok (.dup, 1) := by decide +kernel
theorem dX11_began_21 : decode cX11_began 21 = .ok (.getfield 271, 3) := by decide +kernel
theorem dX11_began_24 : decode cX11_began 24 = .ok (.iconst 1, 1) := by decide +kernel
theorem dX11_began_25 : decode cX11_began 25 = .ok (.iadd, 1) := by decide +kernel
theorem dX11_began_26 : decode cX11_began 26 = .ok (.putfield 271, 3) := by decide +kernel
theorem dX11_began_29 : decode cX11_began 29 = .ok (.return_, 1) := by decide +kernel
theorem dX11_hasOwn_0 : decode cX11_hasOwn 0 = .ok (.iload_n 0, 1) := by decide +kernel
theorem dX11_hasOwn_1 : decode cX11_hasOwn 1 = .ok (.tableswitch 84 0 4 #[35, 37, 52, 37, 68], 35) := by decide +kernel
theorem dX11_hasOwn_36 : decode cX11_hasOwn 36 = .ok (.iconst 1, 1) := by decide +kernel
theorem dX11_hasOwn_37 : decode cX11_hasOwn 37 = .ok (.ireturn, 1) := by decide +kernel
theorem dX11_hasOwn_38 : decode cX11_hasOwn 38 = .ok (.iload_n 1, 1) := by decide +kernel
theorem dX11_hasOwn_39 : decode cX11_hasOwn 39 = .ok (.ifCond .eq 8, 3) := by decide +kernel
theorem dX11_hasOwn_42 : decode cX11_hasOwn 42 = .ok (.iload_n 1, 1) := by decide +kernel
theorem dX11_hasOwn_43 : decode cX11_hasOwn 43 = .ok (.iconst 2, 1) := by decide +kernel
theorem dX11_hasOwn_44 : decode cX11_hasOwn 44 = .ok (.if_icmp .ne 7, 3) := by decide +kernel
theorem dX11_hasOwn_47 : decode cX11_hasOwn 47 = .ok (.iconst 1, 1) := by decide +kernel
theorem dX11_hasOwn_48 : decode cX11_hasOwn 48 = .ok (.goto 4, 3) := by decide +kernel
theorem dX11_hasOwn_51 : decode cX11_hasOwn 51 = .ok (.iconst 0, 1) := by decide +kernel
theorem dX11_hasOwn_52 : decode cX11_hasOwn 52 = .ok (.ireturn, 1) := by decide +kernel
theorem dX11_hasOwn_53 : decode cX11_hasOwn 53 = .ok (.iload_n 1, 1) := by decide +kernel
theorem dX11_hasOwn_54 : decode cX11_hasOwn 54 = .ok (.iconst 1, 1) := by decide +kernel
theorem dX11_hasOwn_55 : decode cX11_hasOwn 55 = .ok (.if_icmp .eq 8, 3) := by decide +kernel
theorem dX11_hasOwn_58 : decode cX11_hasOwn 58 = .ok (.iload_n 1, 1) := by decide +kernel
theorem dX11_hasOwn_59 : decode cX11_hasOwn 59 = .ok (.iconst 3, 1) := by decide +kernel
theorem dX11_hasOwn_60 : decode cX11_hasOwn 60 = .ok (.if_icmp .ne 7, 3) := by decide +kernel
theorem dX11_hasOwn_63 : decode cX11_hasOwn 63 = .ok (.iconst 1, 1) := by decide +kernel
theorem dX11_hasOwn_64 : decode cX11_hasOwn 64 = .ok (.goto 4, 3) := by decide +kernel
theorem dX11_hasOwn_67 : decode cX11_hasOwn 67 = .ok (.iconst 0, 1) := by decide +kernel
theorem dX11_hasOwn_68 : decode cX11_hasOwn 68 = .ok (.ireturn, 1) := by decide +kernel
theorem dX11_hasOwn_69 : decode cX11_hasOwn 69 = .ok (.iload_n 1, 1) := by decide +kernel
theorem dX11_hasOwn_70 : decode cX11_hasOwn 70 = .ok (.iconst 1, 1) := by decide +kernel
theorem dX11_hasOwn_71 : decode cX11_hasOwn 71 = .ok (.if_icmp .eq 8, 3) := by decide +kernel
theorem dX11_hasOwn_74 : decode cX11_hasOwn 74 = .ok (.iload_n 1, 1) := by decide +kernel
theorem dX11_hasOwn_75 : decode cX11_hasOwn 75 = .ok (.iconst 2, 1) := by decide +kernel
theorem dX11_hasOwn_76 : decode cX11_hasOwn 76 = .ok (.if_icmp .ne 7, 3) := by decide +kernel
theorem dX11_hasOwn_79 : decode cX11_hasOwn 79 = .ok (.iconst 1, 1) := by decide +kernel
theorem dX11_hasOwn_80 : decode cX11_hasOwn 80 = .ok (.goto 4, 3) := by decide +kernel
theorem dX11_hasOwn_83 : decode cX11_hasOwn 83 = .ok (.iconst 0, 1) := by decide +kernel
theorem dX11_hasOwn_84 : decode cX11_hasOwn 84 = .ok (.ireturn, 1) := by decide +kernel
theorem dX11_hasOwn_85 : decode cX11_hasOwn 85 = .ok (.iload_n 1, 1) := by decide +kernel
theorem dX11_hasOwn_86 : decode cX11_hasOwn 86 = .ok (.ifCond .eq 8, 3) := by decide +kernel
theorem dX11_hasOwn_89 : decode cX11_hasOwn 89 = .ok (.iload_n 1, 1) := by decide +kernel
theorem dX11_hasOwn_90 : decode cX11_hasOwn 90 = .ok (.iconst 3, 1) := by decide +kernel
theorem dX11_hasOwn_91 : decode cX11_hasOwn 91 = .ok (.if_icmp .ne 7, 3) := by decide +kernel
theorem dX11_hasOwn_94 : decode cX11_hasOwn 94 = .ok (.iconst 1, 1) := by decide +kernel
theorem dX11_hasOwn_95 : decode cX11_hasOwn 95 = .ok (.goto 4, 3) := by decide +kernel
theorem dX11_hasOwn_98 : decode cX11_hasOwn 98 = .ok (.iconst 0, 1) := by decide +kernel
theorem dX11_hasOwn_99 : decode cX11_hasOwn 99 = .ok (.ireturn, 1) := by decide +kernel
theorem dX11_voiced_0 : decode cX11_voiced 0 = .ok (.aload_n 0, 1) := by decide +kernel
theorem dX11_voiced_1 : decode cX11_voiced 1 = .ok (.aload_n 0, 1) := by decide +kernel
theorem dX11_voiced_2 : decode cX11_voiced 2 = .ok (.aload_n 0, 1) := by decide +kernel
theorem dX11_voiced_3 : decode cX11_voiced 3 = .ok (.getfield 274, 3) := by decide +kernel
theorem dX11_voiced_6 : decode cX11_voiced 6 = .ok (.iconst 0, 1) := by decide +kernel
theorem dX11_voiced_7 : decode cX11_voiced 7 = .ok (.invokevirtual 105, 3) := by decide +kernel
theorem dX11_voiced_10 : decode cX11_voiced 10 = .ok (.iload_n 1, 1) := by decide +kernel
theorem dX11_voiced_11 : decode cX11_voiced 11 = .ok (.iload_n 2, 1) := by decide +kernel
theorem dX11_voiced_12 : decode cX11_voiced 12 = .ok (.invokevirtual 277, 3) := by decide +kernel
theorem dX11_voiced_15 : decode cX11_voiced 15 = .ok (.ireturn, 1) := by decide +kernel
theorem dX11_bodyFrom_0 : decode cX11_bodyFrom 0 = .ok (.iload_n 1, 1) := by decide +kernel
theorem dX11_bodyFrom_1 : decode cX11_bodyFrom 1 = .ok (.istore 4, 2) := by decide +kernel
theorem dX11_bodyFrom_3 : decode cX11_bodyFrom 3 = .ok (.iload 4, 2) := by decide +kernel
theorem dX11_bodyFrom_5 : decode cX11_bodyFrom 5 = .ok (.iload_n 2, 1) := by decide +kernel
theorem dX11_bodyFrom_6 : decode cX11_bodyFrom 6 = .ok (.invokestatic 281, 3) := by decide +kernel
theorem dX11_bodyFrom_9 : decode cX11_bodyFrom 9 = .ok (.ifCond .ne 13, 3) := by decide +kernel
theorem dX11_bodyFrom_12 : decode cX11_bodyFrom 12 = .ok (.iload 4, 2) := by decide +kernel
theorem dX11_bodyFrom_14 : decode cX11_bodyFrom 14 = .ok (.invokestatic 115, 3) := by decide +kernel
theorem dX11_bodyFrom_17 : decode cX11_bodyFrom 17 = .ok (.istore 4, 2) := by decide +kernel
theorem dX11_bodyFrom_19 : decode cX11_bodyFrom 19 = .ok (.goto (-16), 3) := by decide +kernel
theorem dX11_bodyFrom_22 : decode cX11_bodyFrom 22 = .ok (.aload_n 0, 1) := by decide +kernel
theorem dX11_bodyFrom_23 : decode cX11_bodyFrom 23 = .ok (.getfield 284, 3) := by decide +kernel
theorem dX11_bodyFrom_26 : decode cX11_bodyFrom 26 = .ok (.ifCond .eq 7, 3) := by decide +kernel
theorem dX11_bodyFrom_29 : decode cX11_bodyFrom 29 = .ok (.iconst 0, 1) := by decide +kernel
theorem dX11_bodyFrom_30 : decode cX11_bodyFrom 30 = .ok (.goto 11, 3) := by decide +kernel
theorem dX11_bodyFrom_33 : decode cX11_bodyFrom 33 = .ok (.aload_n 0, 1) := by decide +kernel
theorem dX11_bodyFrom_34 : decode cX11_bodyFrom 34 = .ok (.iload 4, 2) := by decide +kernel
theorem dX11_bodyFrom_36 : decode cX11_bodyFrom 36 = .ok (.iload_n 2, 1) := by decide +kernel
theorem dX11_bodyFrom_37 : decode cX11_bodyFrom 37 = .ok (.iload_n 3, 1) := by decide +kernel
theorem dX11_bodyFrom_38 : decode cX11_bodyFrom 38 = .ok (.invokevirtual 287, 3) := by decide +kernel
theorem dX11_bodyFrom_41 : decode cX11_bodyFrom 41 = .ok (.ireturn, 1) := by decide +kernel
theorem dX11_body_0 : decode cX11_body 0 = .ok (.aload_n 0, 1) := by decide +kernel
theorem dX11_body_1 : decode cX11_body 1 = .ok (.aload_n 0, 1) := by decide +kernel
theorem dX11_body_2 : decode cX11_body 2 = .ok (.getfield 274, 3) := by decide +kernel
theorem dX11_body_5 : decode cX11_body 5 = .ok (.iconst 1, 1) := by decide +kernel
theorem dX11_body_6 : decode cX11_body 6 = .ok (.invokevirtual 105, 3) := by decide +kernel
theorem dX11_body_9 : decode cX11_body 9 = .ok (.istore 4, 2) := by decide +kernel
theorem dX11_body_11 : decode cX11_body 11 = .ok (.iconst 4, 1) := by decide +kernel
theorem dX11_body_12 : decode cX11_body 12 = .ok (.iload_n 1, 1) := by decide +kernel
theorem dX11_body_13 : decode cX11_body 13 = .ok (.imul, 1) := by decide +kernel
theorem dX11_body_14 : decode cX11_body 14 = .ok (.iload_n 2, 1) := by decide +kernel
theorem dX11_body_15 : decode cX11_body 15 = .ok (.iadd, 1) := by decide +kernel
theorem dX11_body_16 : decode cX11_body 16 = .ok (.tableswitch 361 0 20 #[100, 118, 133, 149, 194, 361, 210, 361, 361, 227, 361, 242, 270, 361, 286, 361, 361, 311, 327, 361, 353], 100) := by decide +kernel
theorem dX11_body_116 : decode cX11_body 116 = .ok (.aload_n 0, 1) := by decide +kernel
theorem dX11_body_117 : decode cX11_body 117 = .ok (.bipush 10, 2) := by decide +kernel
theorem dX11_body_119 : decode cX11_body 119 = .ok (.invokevirtual 290, 3) := by decide +kernel
theorem dX11_body_122 : decode cX11_body 122 = .ok (.iload_n 3, 1) := by decide +kernel
theorem dX11_body_123 : decode cX11_body 123 = .ok (.aload_n 0, 1) := by decide +kernel
theorem dX11_body_124 : decode cX11_body 124 = .ok (.aload_n 0, 1) := by decide +kernel
theorem dX11_body_125 : decode cX11_body 125 = .ok (.getfield 274, 3) := by decide +kernel
theorem dX11_body_128 : decode cX11_body 128 = .ok (.iconst 2, 1) := by decide +kernel
theorem dX11_body_129 : decode cX11_body 129 = .ok (.invokevirtual 105, 3) := by decide +kernel
theorem dX11_body_132 : decode cX11_body 132 = .ok (.iadd, 1) := by decide +kernel
theorem dX11_body_133 : decode cX11_body 133 = .ok (.ireturn, 1) := by decide +kernel
theorem dX11_body_134 : decode cX11_body 134 = .ok (.aload_n 0, 1) := by decide +kernel
theorem dX11_body_135 : decode cX11_body 135 = .ok (.bipush 11, 2) := by decide +kernel
theorem dX11_body_137 : decode cX11_body 137 = .ok (.invokevirtual 290, 3) := by decide +kernel
theorem dX11_body_140 : decode cX11_body 140 = .ok (.aload_n 0, 1) := by decide +kernel
theorem dX11_body_141 : decode cX11_body 141 = .ok (.iconst 0, 1) := by decide +kernel
theorem dX11_body_142 : decode cX11_body 142 = .ok (.iload_n 3, 1) := by decide +kernel
theorem dX11_body_143 : decode cX11_body 143 = .ok (.invokevirtual 294, 3) := by decide +kernel
theorem dX11_body_146 : decode cX11_body 146 = .ok (.iconst 3, 1) := by decide +kernel
theorem dX11_body_147 : decode cX11_body 147 = .ok (.imul, 1) := by decide +kernel
theorem dX11_body_148 : decode cX11_body 148 = .ok (.ireturn, 1) := by decide +kernel
theorem dX11_body_149 : decode cX11_body 149 = .ok (.aload_n 0, 1) := by decide +kernel
theorem dX11_body_150 : decode cX11_body 150 = .ok (.bipush 12, 2) := by decide +kernel
theorem dX11_body_152 : decode cX11_body 152 = .ok (.invokevirtual 290, 3) := by decide +kernel
theorem dX11_body_155 : decode cX11_body 155 = .ok (.aload_n 0, 1) := by decide +kernel
theorem dX11_body_156 : decode cX11_body 156 = .ok (.iconst 1, 1) := by decide +kernel
theorem dX11_body_157 : decode cX11_body 157 = .ok (.iload_n 3, 1) := by decide +kernel
theorem dX11_body_158 : decode cX11_body 158 = .ok (.invokevirtual 294, 3) := by decide +kernel
theorem dX11_body_161 : decode cX11_body 161 = .ok (.iload 4, 2) := by decide +kernel
theorem dX11_body_163 : decode cX11_body 163 = .ok (.isub, 1) := by decide +kernel
theorem dX11_body_164 : decode cX11_body 164 = .ok (.ireturn, 1) := by decide +kernel
theorem dX11_body_165 : decode cX11_body 165 = .ok (.aload_n 0, 1) := by decide +kernel
theorem dX11_body_166 : decode cX11_body 166 = .ok (.bipush 13, 2) := by decide +kernel
theorem dX11_body_168 : decode cX11_body 168 = .ok (.invokevirtual 290, 3) := by decide +kernel
theorem dX11_body_171 : decode cX11_body 171 = .ok (.aload_n 0, 1) := by decide +kernel
theorem dX11_body_172 : decode cX11_body 172 = .ok (.iload 4, 2) := by decide +kernel
theorem dX11_body_174 : decode cX11_body 174 = .ok (.aload_n 0, 1) := by decide +kernel
theorem dX11_body_175 : decode cX11_body 175 = .ok (.getfield 274, 3) := by decide +kernel
theorem dX11_body_178 : decode cX11_body 178 = .ok (.if_icmp .ne 7, 3) := by decide +kernel
theorem dX11_body_181 : decode cX11_body 181 = .ok (.iconst 1, 1) := by decide +kernel
theorem dX11_body_182 : decode cX11_body 182 = .ok (.goto 4, 3) := by decide +kernel
theorem dX11_body_185 : decode cX11_body 185 = .ok (.iconst 0, 1) := by decide +kernel
theorem dX11_body_186 : decode cX11_body 186 = .ok (.putfield 284, 3) := by decide +kernel
theorem dX11_body_189 : decode cX11_body 189 = .ok (.aload_n 0, 1) := by decide +kernel
theorem dX11_body_190 : decode cX11_body 190 = .ok (.getfield 284, 3) := by decide +kernel
theorem dX11_body_193 : decode cX11_body 193 = .ok (.ifCond .eq 7, 3) := by decide +kernel
theorem dX11_body_196 : decode cX11_body 196 = .ok (.iconst 0, 1) := by decide +kernel
theorem dX11_body_197 : decode cX11_body 197 = .ok (.goto 12, 3) := by decide +kernel
theorem dX11_body_200 : decode cX11_body 200 = .ok (.iload_n 3, 1) := by decide +kernel
theorem dX11_body_201 : decode cX11_body 201 = .ok (.iload 4, 2) := by decide +kernel
theorem dX11_body_203 : decode cX11_body 203 = .ok (.aload_n 0, 1) := by decide +kernel
theorem dX11_body_204 : decode cX11_body 204 = .ok (.getfield 274, 3) := by decide +kernel
theorem dX11_body_207 : decode cX11_body 207 = .ok (.isub, 1) := by decide +kernel
theorem dX11_body_208 : decode cX11_body 208 = .ok (.idiv, 1) := by decide +kernel
theorem dX11_body_209 : decode cX11_body 209 = .ok (.ireturn, 1) := by decide +kernel
theorem dX11_body_210 : decode cX11_body 210 = .ok (.aload_n 0, 1) := by decide +kernel
theorem dX11_body_211 : decode cX11_body 211 = .ok (.bipush 20, 2) := by decide +kernel
theorem dX11_body_213 : decode cX11_body 213 = .ok (.invokevirtual 290, 3) := by decide +kernel
theorem dX11_body_216 : decode cX11_body 216 = .ok (.aload_n 0, 1) := by decide +kernel
theorem dX11_body_217 : decode cX11_body 217 = .ok (.iconst 0, 1) := by decide +kernel
theorem dX11_body_218 : decode cX11_body 218 = .ok (.iconst 0, 1) := by decide +kernel
theorem dX11_body_219 : decode cX11_body 219 = .ok (.iload_n 3, 1) := by decide +kernel
theorem dX11_body_220 : decode cX11_body 220 = .ok (.invokevirtual 277, 3) := by decide +kernel
theorem dX11_body_223 : decode cX11_body 223 = .ok (.iconst 1, 1) := by decide +kernel
theorem dX11_body_224 : decode cX11_body 224 = .ok (.iadd, 1) := by decide +kernel
theorem dX11_body_225 : decode cX11_body 225 = .ok (.ireturn, 1) := by decide +kernel
theorem dX11_body_226 : decode cX11_body 226 = .ok (.aload_n 0, 1) := by decide +kernel
theorem dX11_body_227 : decode cX11_body 227 = .ok (.bipush 21, 2) := by decide +kernel
theorem dX11_body_229 : decode cX11_body 229 = .ok (.invokevirtual 290, 3) := by decide +kernel
theorem dX11_body_232 : decode cX11_body 232 = .ok (.aload_n 0, 1) := by decide +kernel
theorem dX11_body_233 : decode cX11_body 233 = .ok (.iconst 0, 1) := by decide +kernel
theorem dX11_body_234 : decode cX11_body 234 = .ok (.iconst 2, 1) := by decide +kernel
theorem dX11_body_235 : decode cX11_body 235 = .ok (.iload_n 3, 1) := by decide +kernel
theorem dX11_body_236 : decode cX11_body 236 = .ok (.invokevirtual 277, 3) := by decide +kernel
theorem dX11_body_239 : decode cX11_body 239 = .ok (.iload 4, 2) := by decide +kernel
theorem dX11_body_241 : decode cX11_body 241 = .ok (.ixor, 1) := by decide +kernel
theorem dX11_body_242 : decode cX11_body 242 = .ok (.ireturn, 1) := by decide +kernel
theorem dX11_body_243 : decode cX11_body 243 = .ok (.aload_n 0, 1) := by decide +kernel
theorem dX11_body_244 : decode cX11_body 244 = .ok (.bipush 30, 2) := by decide +kernel
theorem dX11_body_246 : decode cX11_body 246 = .ok (.invokevirtual 290, 3) := by decide +kernel
theorem dX11_body_249 : decode cX11_body 249 = .ok (.aload_n 0, 1) := by decide +kernel
theorem dX11_body_250 : decode cX11_body 250 = .ok (.iconst 0, 1) := by decide +kernel
theorem dX11_body_251 : decode cX11_body 251 = .ok (.iconst 1, 1) := by decide +kernel
theorem dX11_body_252 : decode cX11_body 252 = .ok (.iload_n 3, 1) := by decide +kernel
theorem dX11_body_253 : decode cX11_body 253 = .ok (.invokevirtual 277, 3) := by decide +kernel
theorem dX11_body_256 : decode cX11_body 256 = .ok (.ineg, 1) := by decide +kernel
theorem dX11_body_257 : decode cX11_body 257 = .ok (.ireturn, 1) := by decide +kernel
theorem dX11_body_258 : decode cX11_body 258 = .ok (.aload_n 0, 1) := by decide +kernel
theorem dX11_body_259 : decode cX11_body 259 = .ok (.bipush 31, 2) := by decide +kernel
theorem dX11_body_261 : decode cX11_body 261 = .ok (.invokevirtual 290, 3) := by decide +kernel
theorem dX11_body_264 : decode cX11_body 264 = .ok (.aload_n 0, 1) := by decide +kernel
theorem dX11_body_265 : decode cX11_body 265 = .ok (.iconst 0, 1) := by decide +kernel
theorem dX11_body_266 : decode cX11_body 266 = .ok (.iconst 3, 1) := by decide +kernel
theorem dX11_body_267 : decode cX11_body 267 = .ok (.iload_n 3, 1) := by decide +kernel
theorem dX11_body_268 : decode cX11_body 268 = .ok (.invokevirtual 277, 3) := by decide +kernel
theorem dX11_body_271 : decode cX11_body 271 = .ok (.istore 5, 2) := by decide +kernel
theorem dX11_body_273 : decode cX11_body 273 = .ok (.iload 5, 2) := by decide +kernel
theorem dX11_body_275 : decode cX11_body 275 = .ok (.aload_n 0, 1) := by decide +kernel
theorem dX11_body_276 : decode cX11_body 276 = .ok (.iconst 0, 1) := by decide +kernel
theorem dX11_body_277 : decode cX11_body 277 = .ok (.aload_n 0, 1) := by decide +kernel
theorem dX11_body_278 : decode cX11_body 278 = .ok (.getfield 274, 3) := by decide +kernel
theorem dX11_body_281 : decode cX11_body 281 = .ok (.invokevirtual 294, 3) := by decide +kernel
theorem dX11_body_284 : decode cX11_body 284 = .ok (.iadd, 1) := by decide +kernel
theorem dX11_body_285 : decode cX11_body 285 = .ok (.ireturn, 1) := by decide +kernel
theorem dX11_body_286 : decode cX11_body 286 = .ok (.aload_n 0, 1) := by decide +kernel
theorem dX11_body_287 : decode cX11_body 287 = .ok (.bipush 40, 2) := by decide +kernel
theorem dX11_body_289 : decode cX11_body 289 = .ok (.invokevirtual 290, 3) := by decide +kernel
theorem dX11_body_292 : decode cX11_body 292 = .ok (.aload_n 0, 1) := by decide +kernel
theorem dX11_body_293 : decode cX11_body 293 = .ok (.iconst 0, 1) := by decide +kernel
theorem dX11_body_294 : decode cX11_body 294 = .ok (.iconst 0, 1) := by decide +kernel
theorem dX11_body_295 : decode cX11_body 295 = .ok (.iload_n 3, 1) := by decide +kernel
theorem dX11_body_296 : decode cX11_body 296 = .ok (.iconst 2, 1) := by decide +kernel
theorem dX11_body_297 : decode cX11_body 297 = .ok (.idiv, 1) := by decide +kernel
theorem dX11_body_298 : decode cX11_body 298 = .ok (.invokevirtual 277, 3) := by decide +kernel
theorem dX11_body_301 : decode cX11_body 301 = .ok (.ireturn, 1) := by decide +kernel
theorem dX11_body_302 : decode cX11_body 302 = .ok (.aload_n 0, 1) := by decide +kernel
theorem dX11_body_303 : decode cX11_body 303 = .ok (.bipush 41, 2) := by decide +kernel
theorem dX11_body_305 : decode cX11_body 305 = .ok (.invokevirtual 290, 3) := by decide +kernel
theorem dX11_body_308 : decode cX11_body 308 = .ok (.aload_n 0, 1) := by decide +kernel
theorem dX11_body_309 : decode cX11_body 309 = .ok (.iconst 0, 1) := by decide +kernel
theorem dX11_body_310 : decode cX11_body 310 = .ok (.iconst 2, 1) := by decide +kernel
theorem dX11_body_311 : decode cX11_body 311 = .ok (.iload_n 3, 1) := by decide +kernel
theorem dX11_body_312 : decode cX11_body 312 = .ok (.invokevirtual 277, 3) := by decide +kernel
theorem dX11_body_315 : decode cX11_body 315 = .ok (.istore 5, 2) := by decide +kernel
theorem dX11_body_317 : decode cX11_body 317 = .ok (.iload 5, 2) := by decide +kernel
theorem dX11_body_319 : decode cX11_body 319 = .ok (.aload_n 0, 1) := by decide +kernel
theorem dX11_body_320 : decode cX11_body 320 = .ok (.iconst 1, 1) := by decide +kernel
theorem dX11_body_321 : decode cX11_body 321 = .ok (.iconst 1, 1) := by decide +kernel
theorem dX11_body_322 : decode cX11_body 322 = .ok (.invokevirtual 294, 3) := by decide +kernel
theorem dX11_body_325 : decode cX11_body 325 = .ok (.iadd, 1) := by decide +kernel
theorem dX11_body_326 : decode cX11_body 326 = .ok (.ireturn, 1) := by decide +kernel
theorem dX11_body_327 : decode cX11_body 327 = .ok (.aload_n 0, 1) := by decide +kernel
theorem dX11_body_328 : decode cX11_body 328 = .ok (.bipush 50, 2) := by decide +kernel
theorem dX11_body_330 : decode cX11_body 330 = .ok (.invokevirtual 290, 3) := by decide +kernel
theorem dX11_body_333 : decode cX11_body 333 = .ok (.aload_n 0, 1) := by decide +kernel
theorem dX11_body_334 : decode cX11_body 334 = .ok (.iconst 2, 1) := by decide +kernel
theorem dX11_body_335 : decode cX11_body 335 = .ok (.iconst 1, 1) := by decide +kernel
theorem dX11_body_336 : decode cX11_body 336 = .ok (.iload_n 3, 1) := by decide +kernel
theorem dX11_body_337 : decode cX11_body 337 = .ok (.iconst 1, 1) := by decide +kernel
theorem dX11_body_338 : decode cX11_body 338 = .ok (.iadd, 1) := by decide +kernel
theorem dX11_body_339 : decode cX11_body 339 = .ok (.invokevirtual 277, 3) := by decide +kernel
theorem dX11_body_342 : decode cX11_body 342 = .ok (.ireturn, 1) := by decide +kernel
theorem dX11_body_343 : decode cX11_body 343 = .ok (.aload_n 0, 1) := by decide +kernel
theorem dX11_body_344 : decode cX11_body 344 = .ok (.bipush 51, 2) := by decide +kernel
theorem dX11_body_346 : decode cX11_body 346 = .ok (.invokevirtual 290, 3) := by decide +kernel
theorem dX11_body_349 : decode cX11_body 349 = .ok (.aload_n 0, 1) := by decide +kernel
theorem dX11_body_350 : decode cX11_body 350 = .ok (.iconst 2, 1) := by decide +kernel
theorem dX11_body_351 : decode cX11_body 351 = .ok (.iconst 2, 1) := by decide +kernel
theorem dX11_body_352 : decode cX11_body 352 = .ok (.iload_n 3, 1) := by decide +kernel
theorem dX11_body_353 : decode cX11_body 353 = .ok (.invokevirtual 277, 3) := by decide +kernel
theorem dX11_body_356 : decode cX11_body 356 = .ok (.istore 5, 2) := by decide +kernel
theorem dX11_body_358 : decode cX11_body 358 = .ok (.iload 5, 2) := by decide +kernel
theorem dX11_body_360 : decode cX11_body 360 = .ok (.aload_n 0, 1) := by decide +kernel
theorem dX11_body_361 : decode cX11_body 361 = .ok (.iconst 2, 1) := by decide +kernel
theorem dX11_body_362 : decode cX11_body 362 = .ok (.iconst 1, 1) := by decide +kernel
theorem dX11_body_363 : decode cX11_body 363 = .ok (.iconst 0, 1) := by decide +kernel
theorem dX11_body_364 : decode cX11_body 364 = .ok (.invokevirtual 277, 3) := by decide +kernel
theorem dX11_body_367 : decode cX11_body 367 = .ok (.isub, 1) := by decide +kernel
theorem dX11_body_368 : decode cX11_body 368 = .ok (.ireturn, 1) := by decide +kernel
theorem dX11_body_369 : decode cX11_body 369 = .ok (.aload_n 0, 1) := by decide +kernel
theorem dX11_body_370 : decode cX11_body 370 = .ok (.bipush 60, 2) := by decide +kernel
theorem dX11_body_372 : decode cX11_body 372 = .ok (.invokevirtual 290, 3) := by decide +kernel
theorem dX11_body_375 : decode cX11_body 375 = .ok (.iconst 0, 1) := by decide +kernel
theorem dX11_body_376 : decode cX11_body 376 = .ok (.ireturn, 1) := by decide +kernel
theorem dX11_body_377 : decode cX11_body 377 = .ok (.aload_n 0, 1) := by decide +kernel
theorem dX11_body_378 : decode cX11_body 378 = .ok (.bipush 61, 2) := by decide +kernel
theorem dX11_body_380 : decode cX11_body 380 = .ok (.invokevirtual 290, 3) := by decide +kernel
theorem dX11_body_383 : decode cX11_body 383 = .ok (.aload_n 0, 1) := by decide +kernel
theorem dX11_body_384 : decode cX11_body 384 = .ok (.iconst 2, 1) := by decide +kernel
theorem dX11_body_385 : decode cX11_body 385 = .ok (.iload_n 3, 1) := by decide +kernel
theorem dX11_body_386 : decode cX11_body 386 = .ok (.invokevirtual 294, 3) := by decide +kernel
theorem dX11_body_389 : decode cX11_body 389 = .ok (.istore 5, 2) := by decide +kernel
theorem dX11_body_391 : decode cX11_body 391 = .ok (.iload 5, 2) := by decide +kernel
theorem dX11_body_393 : decode cX11_body 393 = .ok (.aload_n 0, 1) := by decide +kernel
theorem dX11_body_394 : decode cX11_body 394 = .ok (.iconst 3, 1) := by decide +kernel
theorem dX11_body_395 : decode cX11_body 395 = .ok (.iconst 3, 1) := by decide +kernel
theorem dX11_body_396 : decode cX11_body 396 = .ok (.iload_n 3, 1) := by decide +kernel
theorem dX11_body_397 : decode cX11_body 397 = .ok (.invokevirtual 277, 3) := by decide +kernel
theorem dX11_body_400 : decode cX11_body 400 = .ok (.isub, 1) := by decide +kernel
theorem dX11_body_401 : decode cX11_body 401 = .ok (.ireturn, 1) := by decide +kernel
theorem dX11_voice_0 : decode cX11_voice 0 = .ok (.aload_n 0, 1) := by decide +kernel
theorem dX11_voice_1 : decode cX11_voice 1 = .ok (.iload_n 1, 1) := by decide +kernel
theorem dX11_voice_2 : decode cX11_voice 2 = .ok (.iconst 0, 1) := by decide +kernel
theorem dX11_voice_3 : decode cX11_voice 3 = .ok (.invokevirtual 101, 3) := by decide +kernel
theorem dX11_voice_6 : decode cX11_voice 6 = .ok (.ifCond .eq 12, 3) := by decide +kernel
theorem dX11_voice_9 : decode cX11_voice 9 = .ok (.iload_n 2, 1) := by decide +kernel
theorem dX11_voice_10 : decode cX11_voice 10 = .ok (.iconst 0, 1) := by decide +kernel
theorem dX11_voice_11 : decode cX11_voice 11 = .ok (.iconst 3, 1) := by decide +kernel
theorem dX11_voice_12 : decode cX11_voice 12 = .ok (.invokestatic 83, 3) := by decide +kernel
theorem dX11_voice_15 : decode cX11_voice 15 = .ok (.ifCond .ne 10, 3) := by decide +kernel
theorem dX11_voice_18 : decode cX11_voice 18 = .ok (.aload_n 0, 1) := by decide +kernel
theorem dX11_voice_19 : decode cX11_voice 19 = .ok (.ldc 87, 2) := by decide +kernel
theorem dX11_voice_21 : decode cX11_voice 21 = .ok (.invokevirtual 88, 3) := by decide +kernel
theorem dX11_voice_24 : decode cX11_voice 24 = .ok (.ireturn, 1) := by decide +kernel
theorem dX11_voice_25 : decode cX11_voice 25 = .ok (.aload_n 0, 1) := by decide +kernel
theorem dX11_voice_26 : decode cX11_voice 26 = .ok (.iconst 0, 1) := by decide +kernel
theorem dX11_voice_27 : decode cX11_voice 27 = .ok (.putfield 271, 3) := by decide +kernel
theorem dX11_voice_30 : decode cX11_voice 30 = .ok (.aload_n 0, 1) := by decide +kernel
theorem dX11_voice_31 : decode cX11_voice 31 = .ok (.iload_n 1, 1) := by decide +kernel
theorem dX11_voice_32 : decode cX11_voice 32 = .ok (.putfield 274, 3) := by decide +kernel
theorem dX11_voice_35 : decode cX11_voice 35 = .ok (.aload_n 0, 1) := by decide +kernel
theorem dX11_voice_36 : decode cX11_voice 36 = .ok (.iconst 0, 1) := by decide +kernel
theorem dX11_voice_37 : decode cX11_voice 37 = .ok (.putfield 284, 3) := by decide +kernel
theorem dX11_voice_40 : decode cX11_voice 40 = .ok (.aload_n 0, 1) := by decide +kernel
theorem dX11_voice_41 : decode cX11_voice 41 = .ok (.iload_n 2, 1) := by decide +kernel
theorem dX11_voice_42 : decode cX11_voice 42 = .ok (.iload_n 3, 1) := by decide +kernel
theorem dX11_voice_43 : decode cX11_voice 43 = .ok (.invokevirtual 294, 3) := by decide +kernel
theorem dX11_voice_46 : decode cX11_voice 46 = .ok (.istore 4, 2) := by decide +kernel
theorem dX11_voice_48 : decode cX11_voice 48 = .ok (.aload_n 0, 1) := by decide +kernel
theorem dX11_voice_49 : decode cX11_voice 49 = .ok (.getfield 284, 3) := by decide +kernel
theorem dX11_voice_52 : decode cX11_voice 52 = .ok (.ifCond .eq 13, 3) := by decide +kernel
theorem dX11_voice_55 : decode cX11_voice 55 = .ok (.aload_n 0, 1) := by decide +kernel
theorem dX11_voice_56 : decode cX11_voice 56 = .ok (.ldc_w 297, 3) := by decide +kernel
theorem dX11_voice_59 : decode cX11_voice 59 = .ok (.invokevirtual 88, 3) := by decide +kernel
theorem dX11_voice_62 : decode cX11_voice 62 = .ok (.goto 5, 3) := by decide +kernel
theorem dX11_voice_65 : decode cX11_voice 65 = .ok (.iload 4, 2) := by decide +kernel
theorem dX11_voice_67 : decode cX11_voice 67 = .ok (.ireturn, 1) := by decide +kernel
theorem dX11_body__0 : decode cX11_body_ 0 = .ok (.iload_n 1, 1) := by decide +kernel
theorem dX11_body__1 : decode cX11_body_ 1 = .ok (.iconst 0, 1) := by decide +kernel
theorem dX11_body__2 : decode cX11_body_ 2 = .ok (.aload_n 0, 1) := by decide +kernel
theorem dX11_body__3 : decode cX11_body_ 3 = .ok (.getfield 271, 3) := by decide +kernel
theorem dX11_body__6 : decode cX11_body_ 6 = .ok (.iconst 1, 1) := by decide +kernel
theorem dX11_body__7 : decode cX11_body_ 7 = .ok (.isub, 1) := by decide +kernel
theorem dX11_body__8 : decode cX11_body_ 8 = .ok (.invokestatic 83, 3) := by decide +kernel
theorem dX11_body__11 : decode cX11_body_ 11 = .ok (.ifCond .eq 12, 3) := by decide +kernel
theorem dX11_body__14 : decode cX11_body_ 14 = .ok (.aload_n 0, 1) := by decide +kernel
theorem dX11_body__15 : decode cX11_body_ 15 = .ok (.getfield 67, 3) := by decide +kernel
theorem dX11_body__18 : decode cX11_body_ 18 = .ok (.iload_n 1, 1) := by decide +kernel
theorem dX11_body__19 : decode cX11_body_ 19 = .ok (.iaload, 1) := by decide +kernel
theorem dX11_body__20 : decode cX11_body_ 20 = .ok (.goto 9, 3) := by decide +kernel
theorem dX11_body__23 : decode cX11_body_ 23 = .ok (.aload_n 0, 1) := by decide +kernel
theorem dX11_body__24 : decode cX11_body_ 24 = .ok (.ldc 219, 2) := by decide +kernel
theorem dX11_body__26 : decode cX11_body_ 26 = .ok (.invokevirtual 88, 3) := by decide +kernel
theorem dX11_body__29 : decode cX11_body_ 29 = .ok (.ireturn, 1) := by decide +kernel
theorem dX11_isSheet_0 : decode cX11_isSheet 0 = .ok (.iload_n 0, 1) := by decide +kernel
theorem dX11_isSheet_1 : decode cX11_isSheet 1 = .ok (.iconst 0, 1) := by decide +kernel
theorem dX11_isSheet_2 : decode cX11_isSheet 2 = .ok (.iconst 3, 1) := by decide +kernel
theorem dX11_isSheet_3 : decode cX11_isSheet 3 = .ok (.invokestatic 83, 3) := by decide +kernel
theorem dX11_isSheet_6 : decode cX11_isSheet 6 = .ok (.ireturn, 1) := by decide +kernel
theorem dX11_sheet_0 : decode cX11_sheet 0 = .ok (.iload_n 1, 1) := by decide +kernel
theorem dX11_sheet_1 : decode cX11_sheet 1 = .ok (.invokestatic 298, 3) := by decide +kernel
theorem dX11_sheet_4 : decode cX11_sheet 4 = .ok (.ifCond .eq 25, 3) := by decide +kernel
theorem dX11_sheet_7 : decode cX11_sheet 7 = .ok (.iload_n 2, 1) := by decide +kernel
theorem dX11_sheet_8 : decode cX11_sheet 8 = .ok (.ifCond .eq 28, 3) := by decide +kernel
theorem dX11_sheet_11 : decode cX11_sheet 11 = .ok (.iload_n 2, 1) := by decide +kernel
theorem dX11_sheet_12 : decode cX11_sheet 12 = .ok (.bipush 8, 2) := by decide +kernel
theorem dX11_sheet_14 : decode cX11_sheet 14 = .ok (.if_icmp .eq 22, 3) := by decide +kernel
theorem dX11_sheet_17 : decode cX11_sheet 17 = .ok (.iload_n 2, 1) := by decide +kernel
theorem dX11_sheet_18 : decode cX11_sheet 18 = .ok (.bipush 16, 2) := by decide +kernel
theorem dX11_sheet_20 : decode cX11_sheet 20 = .ok (.if_icmp .eq 16, 3) := by decide +kernel
theorem dX11_sheet_23 : decode cX11_sheet 23 = .ok (.iload_n 2, 1) := by decide +kernel
theorem dX11_sheet_24 : decode cX11_sheet 24 = .ok (.bipush 32, 2) := by decide +kernel
theorem dX11_sheet_26 : decode cX11_sheet 26 = .ok (.if_icmp .eq 10, 3) := by decide +kernel
theorem dX11_sheet_29 : decode cX11_sheet 29 = .ok (.aload_n 0, 1) := by decide +kernel
theorem dX11_sheet_30 : decode cX11_sheet 30 = .ok (.ldc 87, 2) := by decide +kernel
theorem dX11_sheet_32 : decode cX11_sheet 32 = .ok (.invokevirtual 88, 3) := by decide +kernel
theorem dX11_sheet_35 : decode cX11_sheet 35 = .ok (.ireturn, 1) := by decide +kernel
theorem dX11_sheet_36 : decode cX11_sheet 36 = .ok (.iload_n 2, 1) := by decide +kernel
theorem dX11_sheet_37 : decode cX11_sheet 37 = .ok (.ifCond .eq 14, 3) := by decide +kernel
theorem dX11_sheet_40 : decode cX11_sheet 40 = .ok (.iload_n 3, 1) := by decide +kernel
theorem dX11_sheet_41 : decode cX11_sheet 41 = .ok (.ifCond .ge 10, 3) := by decide +kernel
theorem dX11_sheet_44 : decode cX11_sheet 44 = .ok (.aload_n 0, 1) := by decide +kernel
theorem dX11_sheet_45 : decode cX11_sheet 45 = .ok (.ldc 122, 2) := by decide +kernel
theorem dX11_sheet_47 : decode cX11_sheet 47 = .ok (.invokevirtual 88, 3) := by decide +kernel
theorem dX11_sheet_50 : decode cX11_sheet 50 = .ok (.ireturn, 1) := by decide +kernel
theorem dX11_sheet_51 : decode cX11_sheet 51 = .ok (.iload_n 2, 1) := by decide +kernel
theorem dX11_sheet_52 : decode cX11_sheet 52 = .ok (.ifCond .eq 16, 3) := by decide +kernel
theorem dX11_sheet_55 : decode cX11_sheet 55 = .ok (.iload_n 3, 1) := by decide +kernel
theorem dX11_sheet_56 : decode cX11_sheet 56 = .ok (.bipush 24, 2) := by decide +kernel
theorem dX11_sheet_58 : decode cX11_sheet 58 = .ok (.if_icmp .le 10, 3) := by decide +kernel
theorem dX11_sheet_61 : decode cX11_sheet 61 = .ok (.aload_n 0, 1) := by decide +kernel
theorem dX11_sheet_62 : decode cX11_sheet 62 = .ok (.ldc 87, 2) := by decide +kernel
theorem dX11_sheet_64 : decode cX11_sheet 64 = .ok (.invokevirtual 88, 3) := by decide +kernel
theorem dX11_sheet_67 : decode cX11_sheet 67 = .ok (.ireturn, 1) := by decide +kernel
theorem dX11_sheet_68 : decode cX11_sheet 68 = .ok (.aload_n 0, 1) := by decide +kernel
theorem dX11_sheet_69 : decode cX11_sheet 69 = .ok (.getfield 70, 3) := by decide +kernel
theorem dX11_sheet_72 : decode cX11_sheet 72 = .ok (.iload_n 1, 1) := by decide +kernel
theorem dX11_sheet_73 : decode cX11_sheet 73 = .ok (.iload_n 2, 1) := by decide +kernel
theorem dX11_sheet_74 : decode cX11_sheet 74 = .ok (.iastore, 1) := by decide +kernel
theorem dX11_sheet_75 : decode cX11_sheet 75 = .ok (.aload_n 0, 1) := by decide +kernel
theorem dX11_sheet_76 : decode cX11_sheet 76 = .ok (.getfield 73, 3) := by decide +kernel
theorem dX11_sheet_79 : decode cX11_sheet 79 = .ok (.iload_n 1, 1) := by decide +kernel
theorem dX11_sheet_80 : decode cX11_sheet 80 = .ok (.iload_n 2, 1) := by decide +kernel
theorem dX11_sheet_81 : decode cX11_sheet 81 = .ok (.ifCond .ne 7, 3) := by decide +kernel
theorem dX11_sheet_84 : decode cX11_sheet 84 = .ok (.iconst 0, 1) := by decide +kernel
theorem dX11_sheet_85 : decode cX11_sheet 85 = .ok (.goto 4, 3) := by decide +kernel
theorem dX11_sheet_88 : decode cX11_sheet 88 = .ok (.iload_n 3, 1) := by decide +kernel
theorem dX11_sheet_89 : decode cX11_sheet 89 = .ok (.iastore, 1) := by decide +kernel
theorem dX11_sheet_90 : decode cX11_sheet 90 = .ok (.iconst 0, 1) := by decide +kernel
theorem dX11_sheet_91 : decode cX11_sheet 91 = .ok (.istore 4, 2) := by decide +kernel
theorem dX11_sheet_93 : decode cX11_sheet 93 = .ok (.iload 4, 2) := by decide +kernel
theorem dX11_sheet_95 : decode cX11_sheet 95 = .ok (.bipush 24, 2) := by decide +kernel
theorem dX11_sheet_97 : decode cX11_sheet 97 = .ok (.if_icmp .ge 22, 3) := by decide +kernel
theorem dX11_sheet_100 : decode cX11_sheet 100 = .ok (.aload_n 0, 1) := by decide +kernel
theorem dX11_sheet_101 : decode cX11_sheet 101 = .ok (.getfield 76, 3) := by decide +kernel
theorem dX11_sheet_104 : decode cX11_sheet 104 = .ok (.bipush 24, 2) := by decide +kernel
theorem dX11_sheet_106 : decode cX11_sheet 106 = .ok (.iload_n 1, 1) := by decide +kernel
theorem dX11_sheet_107 : decode cX11_sheet 107 = .ok (.imul, 1) := by decide +kernel
theorem dX11_sheet_108 : decode cX11_sheet 108 = .ok (.iload 4, 2) := by decide +kernel
theorem dX11_sheet_110 : decode cX11_sheet 110 = .ok (.iadd, 1) := by decide +kernel
theorem dX11_sheet_111 : decode cX11_sheet 111 = .ok (.iconst 0, 1) := by decide +kernel
theorem dX11_sheet_112 : decode cX11_sheet 112 = .ok (.iastore, 1) := by decide +kernel
theorem dX11_sheet_113 : decode cX11_sheet 113 = .ok (.iinc 4 1, 3) := by decide +kernel
theorem dX11_sheet_116 : decode cX11_sheet 116 = .ok (.goto (-23), 3) := by decide +kernel
theorem dX11_sheet_119 : decode cX11_sheet 119 = .ok (.iconst 1, 1) := by decide +kernel
theorem dX11_sheet_120 : decode cX11_sheet 120 = .ok (.ireturn, 1) := by decide +kernel
theorem dX11_put_0 : decode cX11_put 0 = .ok (.iload_n 1, 1) := by decide +kernel
theorem dX11_put_1 : decode cX11_put 1 = .ok (.invokestatic 298, 3) := by decide +kernel
theorem dX11_put_4 : decode cX11_put 4 = .ok (.ifCond .ne 10, 3) := by decide +kernel
theorem dX11_put_7 : decode cX11_put 7 = .ok (.aload_n 0, 1) := by decide +kernel
theorem dX11_put_8 : decode cX11_put 8 = .ok (.ldc 87, 2) := by decide +kernel
theorem dX11_put_10 : decode cX11_put 10 = .ok (.invokevirtual 88, 3) := by decide +kernel
theorem dX11_put_13 : decode cX11_put 13 = .ok (.ireturn, 1) := by decide +kernel
theorem dX11_put_14 : decode cX11_put 14 = .ok (.aload_n 0, 1) := by decide +kernel
theorem dX11_put_15 : decode cX11_put 15 = .ok (.getfield 70, 3) := by decide +kernel
theorem dX11_put_18 : decode cX11_put 18 = .ok (.iload_n 1, 1) := by decide +kernel
theorem dX11_put_19 : decode cX11_put 19 = .ok (.iaload, 1) := by decide +kernel
theorem dX11_put_20 : decode cX11_put 20 = .ok (.ifCond .ne 10, 3) := by decide +kernel
theorem dX11_put_23 : decode cX11_put 23 = .ok (.aload_n 0, 1) := by decide +kernel
theorem dX11_put_24 : decode cX11_put 24 = .ok (.ldc 219, 2) := by decide +kernel
theorem dX11_put_26 : decode cX11_put 26 = .ok (.invokevirtual 88, 3) := by decide +kernel
theorem dX11_put_29 : decode cX11_put 29 = .ok (.ireturn, 1) := by decide +kernel
theorem dX11_put_30 : decode cX11_put 30 = .ok (.iload_n 2, 1) := by decide +kernel
theorem dX11_put_31 : decode cX11_put 31 = .ok (.iconst 0, 1) := by decide +kernel
theorem dX11_put_32 : decode cX11_put 32 = .ok (.aload_n 0, 1) := by decide +kernel
theorem dX11_put_33 : decode cX11_put 33 = .ok (.getfield 73, 3) := by decide +kernel
theorem dX11_put_36 : decode cX11_put 36 = .ok (.iload_n 1, 1) := by decide +kernel
theorem dX11_put_37 : decode cX11_put 37 = .ok (.iaload, 1) := by decide +kernel
theorem dX11_put_38 : decode cX11_put 38 = .ok (.iconst 1, 1) := by decide +kernel
theorem dX11_put_39 : decode cX11_put 39 = .ok (.isub, 1) := by decide +kernel
theorem dX11_put_40 : decode cX11_put 40 = .ok (.invokestatic 83, 3) := by decide +kernel
theorem dX11_put_43 : decode cX11_put 43 = .ok (.ifCond .ne 10, 3) := by decide +kernel
theorem dX11_put_46 : decode cX11_put 46 = .ok (.aload_n 0, 1) := by decide +kernel
theorem dX11_put_47 : decode cX11_put 47 = .ok (.ldc 87, 2) := by decide +kernel
theorem dX11_put_49 : decode cX11_put 49 = .ok (.invokevirtual 88, 3) := by decide +kernel
theorem dX11_put_52 : decode cX11_put 52 = .ok (.ireturn, 1) := by decide +kernel
theorem dX11_put_53 : decode cX11_put 53 = .ok (.aload_n 0, 1) := by decide +kernel
theorem dX11_put_54 : decode cX11_put 54 = .ok (.getfield 76, 3) := by decide +kernel
theorem dX11_put_57 : decode cX11_put 57 = .ok (.bipush 24, 2) := by decide +kernel
theorem dX11_put_59 : decode cX11_put 59 = .ok (.iload_n 1, 1) := by decide +kernel
theorem dX11_put_60 : decode cX11_put 60 = .ok (.imul, 1) := by decide +kernel
theorem dX11_put_61 : decode cX11_put 61 = .ok (.iload_n 2, 1) := by decide +kernel
theorem dX11_put_62 : decode cX11_put 62 = .ok (.iadd, 1) := by decide +kernel
theorem dX11_put_63 : decode cX11_put 63 = .ok (.aload_n 0, 1) := by decide +kernel
theorem dX11_put_64 : decode cX11_put 64 = .ok (.getfield 70, 3) := by decide +kernel
theorem dX11_put_67 : decode cX11_put 67 = .ok (.iload_n 1, 1) := by decide +kernel
theorem dX11_put_68 : decode cX11_put 68 = .ok (.iaload, 1) := by decide +kernel
theorem dX11_put_69 : decode cX11_put 69 = .ok (.bipush 8, 2) := by decide +kernel
theorem dX11_put_71 : decode cX11_put 71 = .ok (.if_icmp .ne 8, 3) := by decide +kernel
theorem dX11_put_74 : decode cX11_put 74 = .ok (.iload_n 3, 1) := by decide +kernel
theorem dX11_put_75 : decode cX11_put 75 = .ok (.i2b, 1) := by decide +kernel
theorem dX11_put_76 : decode cX11_put 76 = .ok (.goto 20, 3) := by decide +kernel
theorem dX11_put_79 : decode cX11_put 79 = .ok (.aload_n 0, 1) := by decide +kernel
theorem dX11_put_80 : decode cX11_put 80 = .ok (.getfield 70, 3) := by decide +kernel
theorem dX11_put_83 : decode cX11_put 83 = .ok (.iload_n 1, 1) := by decide +kernel
theorem dX11_put_84 : decode cX11_put 84 = .ok (.iaload, 1) := by decide +kernel
theorem dX11_put_85 : decode cX11_put 85 = .ok (.bipush 16, 2) := by decide +kernel
theorem dX11_put_87 : decode cX11_put 87 = .ok (.if_icmp .ne 8, 3) := by decide +kernel
theorem dX11_put_90 : decode cX11_put 90 = .ok (.iload_n 3, 1) := by decide +kernel
theorem dX11_put_91 : decode cX11_put 91 = .ok (.i2s, 1) := by decide +kernel
theorem dX11_put_92 : decode cX11_put 92 = .ok (.goto 4, 3) := by decide +kernel
theorem dX11_put_95 : decode cX11_put 95 = .ok (.iload_n 3, 1) := by decide +kernel
theorem dX11_put_96 : decode cX11_put 96 = .ok (.iastore, 1) := by decide +kernel
theorem dX11_put_97 : decode cX11_put 97 = .ok (.iconst 1, 1) := by decide +kernel
theorem dX11_put_98 : decode cX11_put 98 = .ok (.ireturn, 1) := by decide +kernel
theorem dX11_move_0 : decode cX11_move 0 = .ok (.iload_n 1, 1) := by decide +kernel
theorem dX11_move_1 : decode cX11_move 1 = .ok (.invokestatic 298, 3) := by decide +kernel
theorem dX11_move_4 : decode cX11_move 4 = .ok (.ifCond .eq 10, 3) := by decide +kernel
theorem dX11_move_7 : decode cX11_move 7 = .ok (.iload_n 3, 1) := by decide +kernel
theorem dX11_move_8 : decode cX11_move 8 = .ok (.invokestatic 298, 3) := by decide +kernel
theorem dX11_move_11 : decode cX11_move 11 = .ok (.ifCond .ne 10, 3) := by decide +kernel
theorem dX11_move_14 : decode cX11_move 14 = .ok (.aload_n 0, 1) := by decide +kernel
theorem dX11_move_15 : decode cX11_move 15 = .ok (.ldc 87, 2) := by decide +kernel
theorem dX11_move_17 : decode cX11_move 17 = .ok (.invokevirtual 88, 3) := by decide +kernel
theorem dX11_move_20 : decode cX11_move 20 = .ok (.ireturn, 1) := by decide +kernel
theorem dX11_move_21 : decode cX11_move 21 = .ok (.aload_n 0, 1) := by decide +kernel
theorem dX11_move_22 : decode cX11_move 22 = .ok (.getfield 70, 3) := by decide +kernel
theorem dX11_move_25 : decode cX11_move 25 = .ok (.iload_n 1, 1) := by decide +kernel
theorem dX11_move_26 : decode cX11_move 26 = .ok (.iaload, 1) := by decide +kernel
theorem dX11_move_27 : decode cX11_move 27 = .ok (.ifCond .eq 12, 3) := by decide +kernel
theorem dX11_move_30 : decode cX11_move 30 = .ok (.aload_n 0, 1) := by decide +kernel
theorem dX11_move_31 : decode cX11_move 31 = .ok (.getfield 70, 3) := by decide +kernel
theorem dX11_move_34 : decode cX11_move 34 = .ok (.iload_n 3, 1) := by decide +kernel
theorem dX11_move_35 : decode cX11_move 35 = .ok (.iaload, 1) := by decide +kernel
theorem dX11_move_36 : decode cX11_move 36 = .ok (.ifCond .ne 10, 3) := by decide +kernel
theorem dX11_move_39 : decode cX11_move 39 = .ok (.aload_n 0, 1) := by decide +kernel
theorem dX11_move_40 : decode cX11_move 40 = .ok (.ldc 219, 2) := by decide +kernel
theorem dX11_move_42 : decode cX11_move 42 = .ok (.invokevirtual 88, 3) := by decide +kernel
theorem dX11_move_45 : decode cX11_move 45 = .ok (.ireturn, 1) := by decide +kernel
theorem dX11_move_46 : decode cX11_move 46 = .ok (.aload_n 0, 1) := by decide +kernel
theorem dX11_move_47 : decode cX11_move 47 = .ok (.getfield 70, 3) := by decide +kernel
theorem dX11_move_50 : decode cX11_move 50 = .ok (.iload_n 1, 1) := by decide +kernel
theorem dX11_move_51 : decode cX11_move 51 = .ok (.iaload, 1) := by decide +kernel
theorem dX11_move_52 : decode cX11_move 52 = .ok (.aload_n 0, 1) := by decide +kernel
theorem dX11_move_53 : decode cX11_move 53 = .ok (.getfield 70, 3) := by decide +kernel
theorem dX11_move_56 : decode cX11_move 56 = .ok (.iload_n 3, 1) := by decide +kernel
theorem dX11_move_57 : decode cX11_move 57 = .ok (.iaload, 1) := by decide +kernel
theorem dX11_move_58 : decode cX11_move 58 = .ok (.if_icmp .eq 10, 3) := by decide +kernel
theorem dX11_move_61 : decode cX11_move 61 = .ok (.aload_n 0, 1) := by decide +kernel
theorem dX11_move_62 : decode cX11_move 62 = .ok (.ldc 118, 2) := by decide +kernel
theorem dX11_move_64 : decode cX11_move 64 = .ok (.invokevirtual 88, 3) := by decide +kernel
theorem dX11_move_67 : decode cX11_move 67 = .ok (.ireturn, 1) := by decide +kernel
theorem dX11_move_68 : decode cX11_move 68 = .ok (.iload 5, 2) := by decide +kernel
theorem dX11_move_70 : decode cX11_move 70 = .ok (.ifCond .lt 47, 3) := by decide +kernel
theorem dX11_move_73 : decode cX11_move 73 = .ok (.iload_n 2, 1) := by decide +kernel
theorem dX11_move_74 : decode cX11_move 74 = .ok (.ifCond .lt 43, 3) := by decide +kernel
theorem dX11_move_77 : decode cX11_move 77 = .ok (.iload 4, 2) := by decide +kernel
theorem dX11_move_79 : decode cX11_move 79 = .ok (.ifCond .lt 38, 3) := by decide +kernel
theorem dX11_move_82 : decode cX11_move 82 = .ok (.iload_n 2, 1) := by decide +kernel
theorem dX11_move_83 : decode cX11_move 83 = .ok (.i2l, 1) := by decide +kernel
theorem dX11_move_84 : decode cX11_move 84 = .ok (.iload 5, 2) := by decide +kernel
theorem dX11_move_86 : decode cX11_move 86 = .ok (.i2l, 1) := by decide +kernel
theorem dX11_move_87 : decode cX11_move 87 = .ok (.ladd, 1) := by decide +kernel
theorem dX11_move_88 : decode cX11_move 88 = .ok (.aload_n 0, 1) := by decide +kernel
theorem dX11_move_89 : decode cX11_move 89 = .ok (.getfield 73, 3) := by decide +kernel
theorem dX11_move_92 : decode cX11_move 92 = .ok (.iload_n 1, 1) := by decide +kernel
theorem dX11_move_93 : decode cX11_move 93 = .ok (.iaload, 1) := by decide +kernel
theorem dX11_move_94 : decode cX11_move 94 = .ok (.i2l, 1) := by decide +kernel
theorem dX11_move_95 : decode cX11_move 95 = .ok (.lcmp, 1) := by decide +kernel
theorem dX11_move_96 : decode cX11_move 96 = .ok (.ifCond .gt 21, 3) := by decide +kernel
theorem dX11_move_99 : decode cX11_move 99 = .ok (.iload 4, 2) := by decide +kernel
theorem dX11_move_101 : decode cX11_move 101 = .ok (.i2l, 1) := by decide +kernel
theorem dX11_move_102 : decode cX11_move 102 = .ok (.iload 5, 2) := by decide +kernel
theorem dX11_move_104 : decode cX11_move 104 = .ok (.i2l, 1) := by decide +kernel
theorem dX11_move_105 : decode cX11_move 105 = .ok (.ladd, 1) := by decide +kernel
theorem dX11_move_106 : decode cX11_move 106 = .ok (.aload_n 0, 1) := by decide +kernel
theorem dX11_move_107 : decode cX11_move 107 = .ok (.getfield 73, 3) := by decide +kernel
theorem dX11_move_110 : decode cX11_move 110 = .ok (.iload_n 3, 1) := by decide +kernel
theorem dX11_move_111 : decode cX11_move 111 = .ok (.iaload, 1) := by decide +kernel
theorem dX11_move_112 : decode cX11_move 112 = .ok (.i2l, 1) := by decide +kernel
theorem dX11_move_113 : decode cX11_move 113 = .ok (.lcmp, 1) := by decide +kernel
theorem dX11_move_114 : decode cX11_move 114 = .ok (.ifCond .le 10, 3) := by decide +kernel
theorem dX11_move_117 : decode cX11_move 117 = .ok (.aload_n 0, 1) := by decide +kernel
theorem dX11_move_118 : decode cX11_move 118 = .ok (.ldc 87, 2) := by decide +kernel
theorem dX11_move_120 : decode cX11_move 120 = .ok (.invokevirtual 88, 3) := by decide +kernel
theorem dX11_move_123 : decode cX11_move 123 = .ok (.ireturn, 1) := by decide +kernel
theorem dX11_move_124 : decode cX11_move 124 = .ok (.iconst 0, 1) := by decide +kernel
theorem dX11_move_125 : decode cX11_move 125 = .ok (.istore 6, 2) := by decide +kernel
theorem dX11_move_127 : decode cX11_move 127 = .ok (.iload 6, 2) := by decide +kernel
theorem dX11_move_129 : decode cX11_move 129 = .ok (.iload 5, 2) := by decide +kernel
theorem dX11_move_131 : decode cX11_move 131 = .ok (.if_icmp .ge 30, 3) := by decide +kernel
theorem dX11_move_134 : decode cX11_move 134 = .ok (.aload_n 0, 1) := by decide +kernel
theorem dX11_move_135 : decode cX11_move 135 = .ok (.getfield 79, 3) := by decide +kernel
theorem dX11_move_138 : decode cX11_move 138 = .ok (.iload 6, 2) := by decide +kernel
theorem dX11_move_140 : decode cX11_move 140 = .ok (.aload_n 0, 1) := by decide +kernel
theorem dX11_move_141 : decode cX11_move 141 = .ok (.getfield 76, 3) := by decide +kernel
theorem dX11_move_144 : decode cX11_move 144 = .ok (.bipush 24, 2) := by decide +kernel
theorem dX11_move_146 : decode cX11_move 146 = .ok (.iload_n 1, 1) := by decide +kernel
theorem dX11_move_147 : decode cX11_move 147 = .ok (.imul, 1) := by decide +kernel
theorem dX11_move_148 : decode cX11_move 148 = .ok (.iload_n 2, 1) := by decide +kernel
theorem dX11_move_149 : decode cX11_move 149 = .ok (.iadd, 1) := by decide +kernel
theorem dX11_move_150 : decode cX11_move 150 = .ok (.iload 6, 2) := by decide +kernel
theorem dX11_move_152 : decode cX11_move 152 = .ok (.iadd, 1) := by decide +kernel
theorem dX11_move_153 : decode cX11_move 153 = .ok (.iaload, 1) := by decide +kernel
theorem dX11_move_154 : decode cX11_move 154 = .ok (.iastore, 1) := by decide +kernel
theorem dX11_move_155 : decode cX11_move 155 = .ok (.iinc 6 1, 3) := by decide +kernel
theorem dX11_move_158 : decode cX11_move 158 = .ok (.goto (-31), 3) := by decide +kernel
theorem dX11_move_161 : decode cX11_move 161 = .ok (.iconst 0, 1) := by decide +kernel
theorem dX11_move_162 : decode cX11_move 162 = .ok (.istore 6, 2) := by decide +kernel
theorem dX11_move_164 : decode cX11_move 164 = .ok (.iload 6, 2) := by decide +kernel
theorem dX11_move_166 : decode cX11_move 166 = .ok (.iload 5, 2) := by decide +kernel
theorem dX11_move_168 : decode cX11_move 168 = .ok (.if_icmp .ge 31, 3) := by decide +kernel
theorem dX11_move_171 : decode cX11_move 171 = .ok (.aload_n 0, 1) := by decide +kernel
theorem dX11_move_172 : decode cX11_move 172 = .ok (.getfield 76, 3) := by decide +kernel
theorem dX11_move_175 : decode cX11_move 175 = .ok (.bipush 24, 2) := by decide +kernel
theorem dX11_move_177 : decode cX11_move 177 = .ok (.iload_n 3, 1) := by decide +kernel
theorem dX11_move_178 : decode cX11_move 178 = .ok (.imul, 1) := by decide +kernel
theorem dX11_move_179 : decode cX11_move 179 = .ok (.iload 4, 2) := by decide +kernel
theorem dX11_move_181 : decode cX11_move 181 = .ok (.iadd, 1) := by decide +kernel
theorem dX11_move_182 : decode cX11_move 182 = .ok (.iload 6, 2) := by decide +kernel
theorem dX11_move_184 : decode cX11_move 184 = .ok (.iadd, 1) := by decide +kernel
theorem dX11_move_185 : decode cX11_move 185 = .ok (.aload_n 0, 1) := by decide +kernel
theorem dX11_move_186 : decode cX11_move 186 = .ok (.getfield 79, 3) := by decide +kernel
theorem dX11_move_189 : decode cX11_move 189 = .ok (.iload 6, 2) := by decide +kernel
theorem dX11_move_191 : decode cX11_move 191 = .ok (.iaload, 1) := by decide +kernel
theorem dX11_move_192 : decode cX11_move 192 = .ok (.iastore, 1) := by decide +kernel
theorem dX11_move_193 : decode cX11_move 193 = .ok (.iinc 6 1, 3) := by decide +kernel
theorem dX11_move_196 : decode cX11_move 196 = .ok (.goto (-32), 3) := by decide +kernel
theorem dX11_move_199 : decode cX11_move 199 = .ok (.iload 5, 2) := by decide +kernel
theorem dX11_move_201 : decode cX11_move 201 = .ok (.ireturn, 1) := by decide +kernel
theorem dX11_says_0 : decode cX11_says 0 = .ok (.iload_n 1, 1) := by decide +kernel
theorem dX11_says_1 : decode cX11_says 1 = .ok (.invokestatic 298, 3) := by decide +kernel
theorem dX11_says_4 : decode cX11_says 4 = .ok (.ifCond .ne 10, 3) := by decide +kernel
theorem dX11_says_7 : decode cX11_says 7 = .ok (.aload_n 0, 1) := by decide +kernel
theorem dX11_says_8 : decode cX11_says 8 = .ok (.ldc 87, 2) := by decide +kernel
theorem dX11_says_10 : decode cX11_says 10 = .ok (.invokevirtual 88, 3) := by decide +kernel
theorem dX11_says_13 : decode cX11_says 13 = .ok (.ireturn, 1) := by decide +kernel
theorem dX11_says_14 : decode cX11_says 14 = .ok (.aload_n 0, 1) := by decide +kernel
theorem dX11_says_15 : decode cX11_says 15 = .ok (.getfield 70, 3) := by decide +kernel
theorem dX11_says_18 : decode cX11_says 18 = .ok (.iload_n 1, 1) := by decide +kernel
theorem dX11_says_19 : decode cX11_says 19 = .ok (.iaload, 1) := by decide +kernel
theorem dX11_says_20 : decode cX11_says 20 = .ok (.ifCond .ne 10, 3) := by decide +kernel
theorem dX11_says_23 : decode cX11_says 23 = .ok (.aload_n 0, 1) := by decide +kernel
theorem dX11_says_24 : decode cX11_says 24 = .ok (.ldc 219, 2) := by decide +kernel
theorem dX11_says_26 : decode cX11_says 26 = .ok (.invokevirtual 88, 3) := by decide +kernel
theorem dX11_says_29 : decode cX11_says 29 = .ok (.ireturn, 1) := by decide +kernel
theorem dX11_says_30 : decode cX11_says 30 = .ok (.iconst 0, 1) := by decide +kernel
theorem dX11_says_31 : decode cX11_says 31 = .ok (.istore_n 2, 1) := by decide +kernel
theorem dX11_says_32 : decode cX11_says 32 = .ok (.bipush 24, 2) := by decide +kernel
theorem dX11_says_34 : decode cX11_says 34 = .ok (.iload_n 1, 1) := by decide +kernel
theorem dX11_says_35 : decode cX11_says 35 = .ok (.imul, 1) := by decide +kernel
theorem dX11_says_36 : decode cX11_says 36 = .ok (.istore_n 3, 1) := by decide +kernel
theorem dX11_says_37 : decode cX11_says 37 = .ok (.iconst 2, 1) := by decide +kernel
theorem dX11_says_38 : decode cX11_says 38 = .ok (.iload_n 2, 1) := by decide +kernel
theorem dX11_says_39 : decode cX11_says 39 = .ok (.imul, 1) := by decide +kernel
theorem dX11_says_40 : decode cX11_says 40 = .ok (.iconst 2, 1) := by decide +kernel
theorem dX11_says_41 : decode cX11_says 41 = .ok (.iadd, 1) := by decide +kernel
theorem dX11_says_42 : decode cX11_says 42 = .ok (.aload_n 0, 1) := by decide +kernel
theorem dX11_says_43 : decode cX11_says 43 = .ok (.getfield 73, 3) := by decide +kernel
theorem dX11_says_46 : decode cX11_says 46 = .ok (.iload_n 1, 1) := by decide +kernel
theorem dX11_says_47 : decode cX11_says 47 = .ok (.iaload, 1) := by decide +kernel
theorem dX11_says_48 : decode cX11_says 48 = .ok (.if_icmp .gt 74, 3) := by decide +kernel
theorem dX11_says_51 : decode cX11_says 51 = .ok (.aload_n 0, 1) := by decide +kernel
theorem dX11_says_52 : decode cX11_says 52 = .ok (.getfield 76, 3) := by decide +kernel
theorem dX11_says_55 : decode cX11_says 55 = .ok (.iload_n 3, 1) := by decide +kernel
theorem dX11_says_56 : decode cX11_says 56 = .ok (.iaload, 1) := by decide +kernel
theorem dX11_says_57 : decode cX11_says 57 = .ok (.istore 4, 2) := by decide +kernel
theorem dX11_says_59 : decode cX11_says 59 = .ok (.iload 4, 2) := by decide +kernel
theorem dX11_says_61 : decode cX11_says 61 = .ok (.ifCond .lt 20, 3) := by decide +kernel
theorem dX11_says_64 : decode cX11_says 64 = .ok (.aload_n 0, 1) := by decide +kernel
theorem dX11_says_65 : decode cX11_says 65 = .ok (.iload 4, 2) := by decide +kernel
theorem dX11_says_67 : decode cX11_says 67 = .ok (.bipush 12, 2) := by decide +kernel
theorem dX11_says_69 : decode cX11_says 69 = .ok (.idiv, 1) := by decide +kernel
theorem dX11_says_70 : decode cX11_says 70 = .ok (.iload 4, 2) := by decide +kernel
theorem dX11_says_72 : decode cX11_says 72 = .ok (.bipush 12, 2) := by decide +kernel
theorem dX11_says_74 : decode cX11_says 74 = .ok (.irem, 1) := by decide +kernel
theorem dX11_says_75 : decode cX11_says 75 = .ok (.invokevirtual 123, 3) := by decide +kernel
theorem dX11_says_78 : decode cX11_says 78 = .ok (.ifCond .eq 5, 3) := by decide +kernel
theorem dX11_says_81 : decode cX11_says 81 = .ok (.iload_n 2, 1) := by decide +kernel
theorem dX11_says_82 : decode cX11_says 82 = .ok (.ireturn, 1) := by decide +kernel
theorem dX11_says_83 : decode cX11_says 83 = .ok (.aload_n 0, 1) := by decide +kernel
theorem dX11_says_84 : decode cX11_says 84 = .ok (.iload 4, 2) := by decide +kernel
theorem dX11_says_86 : decode cX11_says 86 = .ok (.bipush 12, 2) := by decide +kernel
theorem dX11_says_88 : decode cX11_says 88 = .ok (.idiv, 1) := by decide +kernel
theorem dX11_says_89 : decode cX11_says 89 = .ok (.iload 4, 2) := by decide +kernel
theorem dX11_says_91 : decode cX11_says 91 = .ok (.bipush 12, 2) := by decide +kernel
theorem dX11_says_93 : decode cX11_says 93 = .ok (.irem, 1) := by decide +kernel
theorem dX11_says_94 : decode cX11_says 94 = .ok (.aload_n 0, 1) := by decide +kernel
theorem dX11_says_95 : decode cX11_says 95 = .ok (.getfield 76, 3) := by decide +kernel
theorem dX11_says_98 : decode cX11_says 98 = .ok (.iload_n 3, 1) := by decide +kernel
theorem dX11_says_99 : decode cX11_says 99 = .ok (.iconst 1, 1) := by decide +kernel
theorem dX11_says_100 : decode cX11_says 100 = .ok (.iadd, 1) := by decide +kernel
theorem dX11_says_101 : decode cX11_says 101 = .ok (.iaload, 1) := by decide +kernel
theorem dX11_says_102 : decode cX11_says 102 = .ok (.ifCond .eq 7, 3) := by decide +kernel
theorem dX11_says_105 : decode cX11_says 105 = .ok (.iconst 1, 1) := by decide +kernel
theorem dX11_says_106 : decode cX11_says 106 = .ok (.goto 4, 3) := by decide +kernel
theorem dX11_says_109 : decode cX11_says 109 = .ok (.iconst 0, 1) := by decide +kernel
theorem dX11_says_110 : decode cX11_says 110 = .ok (.invokevirtual 126, 3) := by decide +kernel
theorem dX11_says_113 : decode cX11_says 113 = .ok (.iinc 2 1, 3) := by decide +kernel
theorem dX11_says_116 : decode cX11_says 116 = .ok (.iinc 3 2, 3) := by decide +kernel
theorem dX11_says_119 : decode cX11_says 119 = .ok (.goto (-82), 3) := by decide +kernel
theorem dX11_says_122 : decode cX11_says 122 = .ok (.iload_n 2, 1) := by decide +kernel
theorem dX11_says_123 : decode cX11_says 123 = .ok (.ireturn, 1) := by decide +kernel
theorem dX11_image_0 : decode cX11_image 0 = .ok (.aload_n 0, 1) := by decide +kernel
theorem dX11_image_1 : decode cX11_image 1 = .ok (.getfield 9, 3) := by decide +kernel
theorem dX11_image_4 : decode cX11_image 4 = .ok (.aload_n 0, 1) := by decide +kernel
theorem dX11_image_5 : decode cX11_image 5 = .ok (.getfield 13, 3) := by decide +kernel
theorem dX11_image_8 : decode cX11_image 8 = .ok (.invokestatic 183, 3) := by decide +kernel
theorem dX11_image_11 : decode cX11_image 11 = .ok (.aload_n 0, 1) := by decide +kernel
theorem dX11_image_12 : decode cX11_image 12 = .ok (.dup, 1) := by decide +kernel
theorem dX11_image_13 : decode cX11_image 13 = .ok (.getfield 301, 3) := by decide +kernel
theorem dX11_image_16 : decode cX11_image 16 = .ok (.iconst 1, 1) := by decide +kernel
theorem dX11_image_17 : decode cX11_image 17 = .ok (.iadd, 1) := by decide +kernel
theorem dX11_image_18 : decode cX11_image 18 = .ok (.putfield 301, 3) := by decide +kernel
theorem dX11_image_21 : decode cX11_image 21 = .ok (.aload_n 0, 1) := by decide +kernel
theorem dX11_image_22 : decode cX11_image 22 = .ok (.getfield 301, 3) := by decide +kernel
theorem dX11_image_25 : decode cX11_image 25 = .ok (.ireturn, 1) := by decide +kernel
theorem dX11_restore_0 : decode cX11_restore 0 = .ok (.aload_n 0, 1) := by decide +kernel
theorem dX11_restore_1 : decode cX11_restore 1 = .ok (.getfield 301, 3) := by decide +kernel
theorem dX11_restore_4 : decode cX11_restore 4 = .ok (.ifCond .ne 10, 3) := by decide +kernel
theorem dX11_restore_7 : decode cX11_restore 7 = .ok (.aload_n 0, 1) := by decide +kernel
theorem dX11_restore_8 : decode cX11_restore 8 = .ok (.ldc 219, 2) := by decide +kernel
theorem dX11_restore_10 : decode cX11_restore 10 = .ok (.invokevirtual 88, 3) := by decide +kernel
theorem dX11_restore_13 : decode cX11_restore 13 = .ok (.ireturn, 1) := by decide +kernel
theorem dX11_restore_14 : decode cX11_restore 14 = .ok (.aload_n 0, 1) := by decide +kernel
theorem dX11_restore_15 : decode cX11_restore 15 = .ok (.getfield 13, 3) := by decide +kernel
theorem dX11_restore_18 : decode cX11_restore 18 = .ok (.aload_n 0, 1) := by decide +kernel
theorem dX11_restore_19 : decode cX11_restore 19 = .ok (.getfield 9, 3) := by decide +kernel
theorem dX11_restore_22 : decode cX11_restore 22 = .ok (.invokestatic 183, 3) := by decide +kernel
theorem dX11_restore_25 : decode cX11_restore 25 = .ok (.aload_n 0, 1) := by decide +kernel
theorem dX11_restore_26 : decode cX11_restore 26 = .ok (.getfield 9, 3) := by decide +kernel
theorem dX11_restore_29 : decode cX11_restore 29 = .ok (.iconst 0, 1) := by decide +kernel
theorem dX11_restore_30 : decode cX11_restore 30 = .ok (.iaload, 1) := by decide +kernel
theorem dX11_restore_31 : decode cX11_restore 31 = .ok (.ireturn, 1) := by decide +kernel
theorem dX11_tell_0 : decode cX11_tell 0 = .ok (.aload_n 0, 1) := by decide +kernel
theorem dX11_tell_1 : decode cX11_tell 1 = .ok (.getfield 9, 3) := by decide +kernel
theorem dX11_tell_4 : decode cX11_tell 4 = .ok (.iconst 4, 1) := by decide +kernel
theorem dX11_tell_5 : decode cX11_tell 5 = .ok (.iaload, 1) := by decide +kernel
theorem dX11_tell_6 : decode cX11_tell 6 = .ok (.bipush 48, 2) := by decide +kernel
theorem dX11_tell_8 : decode cX11_tell 8 = .ok (.if_icmp .ne 10, 3) := by decide +kernel
theorem dX11_tell_11 : decode cX11_tell 11 = .ok (.aload_n 0, 1) := by decide +kernel
theorem dX11_tell_12 : decode cX11_tell 12 = .ok (.ldc 92, 2) := by decide +kernel
theorem dX11_tell_14 : decode cX11_tell 14 = .ok (.invokevirtual 88, 3) := by decide +kernel
theorem dX11_tell_17 : decode cX11_tell 17 = .ok (.ireturn, 1) := by decide +kernel
theorem dX11_tell_18 : decode cX11_tell 18 = .ok (.aload_n 0, 1) := by decide +kernel
theorem dX11_tell_19 : decode cX11_tell 19 = .ok (.getfield 9, 3) := by decide +kernel
theorem dX11_tell_22 : decode cX11_tell 22 = .ok (.sipush 505, 3) := by decide +kernel
theorem dX11_tell_25 : decode cX11_tell 25 = .ok (.aload_n 0, 1) := by decide +kernel
theorem dX11_tell_26 : decode cX11_tell 26 = .ok (.getfield 9, 3) := by decide +kernel
theorem dX11_tell_29 : decode cX11_tell 29 = .ok (.iconst 4, 1) := by decide +kernel
theorem dX11_tell_30 : decode cX11_tell 30 = .ok (.iaload, 1) := by decide +kernel
theorem dX11_tell_31 : decode cX11_tell 31 = .ok (.iadd, 1) := by decide +kernel
theorem dX11_tell_32 : decode cX11_tell 32 = .ok (.iload_n 1, 1) := by decide +kernel
theorem dX11_tell_33 : decode cX11_tell 33 = .ok (.iastore, 1) := by decide +kernel
theorem dX11_tell_34 : decode cX11_tell 34 = .ok (.aload_n 0, 1) := by decide +kernel
theorem dX11_tell_35 : decode cX11_tell 35 = .ok (.getfield 9, 3) := by decide +kernel
theorem dX11_tell_38 : decode cX11_tell 38 = .ok (.iconst 4, 1) := by decide +kernel
theorem dX11_tell_39 : decode cX11_tell 39 = .ok (.dup2, 1) := by decide +kernel
theorem dX11_tell_40 : decode cX11_tell 40 = .ok (.iaload, 1) := by decide +kernel
theorem dX11_tell_41 : decode cX11_tell 41 = .ok (.iconst 1, 1) := by decide +kernel
theorem dX11_tell_42 : decode cX11_tell 42 = .ok (.iadd, 1) := by decide +kernel
theorem dX11_tell_43 : decode cX11_tell 43 = .ok (.iastore, 1) := by decide +kernel
theorem dX11_tell_44 : decode cX11_tell 44 = .ok (.aload_n 0, 1) := by decide +kernel
theorem dX11_tell_45 : decode cX11_tell 45 = .ok (.getfield 9, 3) := by decide +kernel
theorem dX11_tell_48 : decode cX11_tell 48 = .ok (.iconst 4, 1) := by decide +kernel
theorem dX11_tell_49 : decode cX11_tell 49 = .ok (.iaload, 1) := by decide +kernel
theorem dX11_tell_50 : decode cX11_tell 50 = .ok (.ireturn, 1) := by decide +kernel
theorem dX11_check_0 : decode cX11_check 0 = .ok (.aload_n 0, 1) := by decide +kernel
theorem dX11_check_1 : decode cX11_check 1 = .ok (.getfield 9, 3) := by decide +kernel
theorem dX11_check_4 : decode cX11_check 4 = .ok (.iconst 4, 1) := by decide +kernel
theorem dX11_check_5 : decode cX11_check 5 = .ok (.iaload, 1) := by decide +kernel
theorem dX11_check_6 : decode cX11_check 6 = .ok (.istore_n 1, 1) := by decide +kernel
theorem dX11_check_7 : decode cX11_check 7 = .ok (.aload_n 0, 1) := by decide +kernel
theorem dX11_check_8 : decode cX11_check 8 = .ok (.getfield 9, 3) := by decide +kernel
theorem dX11_check_11 : decode cX11_check 11 = .ok (.iconst 4, 1) := by decide +kernel
theorem dX11_check_12 : decode cX11_check 12 = .ok (.iconst 0, 1) := by decide +kernel
theorem dX11_check_13 : decode cX11_check 13 = .ok (.iastore, 1) := by decide +kernel
theorem dX11_check_14 : decode cX11_check 14 = .ok (.aload_n 0, 1) := by decide +kernel
theorem dX11_check_15 : decode cX11_check 15 = .ok (.invokevirtual 216, 3) := by decide +kernel
theorem dX11_check_18 : decode cX11_check 18 = .ok (.iconst 0, 1) := by decide +kernel
theorem dX11_check_19 : decode cX11_check 19 = .ok (.istore_n 2, 1) := by decide +kernel
theorem dX11_check_20 : decode cX11_check 20 = .ok (.iload_n 2, 1) := by decide +kernel
theorem dX11_check_21 : decode cX11_check 21 = .ok (.iload_n 1, 1) := by decide +kernel
theorem dX11_check_22 : decode cX11_check 22 = .ok (.if_icmp .ge 40, 3) := by decide +kernel
theorem dX11_check_25 : decode cX11_check 25 = .ok (.iload_n 2, 1) := by decide +kernel
theorem dX11_check_26 : decode cX11_check 26 = .ok (.aload_n 0, 1) := by decide +kernel
theorem dX11_check_27 : decode cX11_check 27 = .ok (.getfield 213, 3) := by decide +kernel
theorem dX11_check_30 : decode cX11_check 30 = .ok (.if_icmp .ge 22, 3) := by decide +kernel
theorem dX11_check_33 : decode cX11_check 33 = .ok (.aload_n 0, 1) := by decide +kernel
theorem dX11_check_34 : decode cX11_check 34 = .ok (.getfield 9, 3) := by decide +kernel
theorem dX11_check_37 : decode cX11_check 37 = .ok (.sipush 505, 3) := by decide +kernel
theorem dX11_check_40 : decode cX11_check 40 = .ok (.iload_n 2, 1) := by decide +kernel
theorem dX11_check_41 : decode cX11_check 41 = .ok (.iadd, 1) := by decide +kernel
theorem dX11_check_42 : decode cX11_check 42 = .ok (.iaload, 1) := by decide +kernel
theorem dX11_check_43 : decode cX11_check 43 = .ok (.aload_n 0, 1) := by decide +kernel
theorem dX11_check_44 : decode cX11_check 44 = .ok (.getfield 40, 3) := by decide +kernel
theorem dX11_check_47 : decode cX11_check 47 = .ok (.iload_n 2, 1) := by decide +kernel
theorem dX11_check_48 : decode cX11_check 48 = .ok (.iaload, 1) := by decide +kernel
theorem dX11_check_49 : decode cX11_check 49 = .ok (.if_icmp .eq 7, 3) := by decide +kernel
theorem dX11_check_52 : decode cX11_check 52 = .ok (.iconst 1, 1) := by decide +kernel
theorem dX11_check_53 : decode cX11_check 53 = .ok (.iload_n 2, 1) := by decide +kernel
theorem dX11_check_54 : decode cX11_check 54 = .ok (.iadd, 1) := by decide +kernel
theorem dX11_check_55 : decode cX11_check 55 = .ok (.ireturn, 1) := by decide +kernel
theorem dX11_check_56 : decode cX11_check 56 = .ok (.iinc 2 1, 3) := by decide +kernel
theorem dX11_check_59 : decode cX11_check 59 = .ok (.goto (-39), 3) := by decide +kernel
theorem dX11_check_62 : decode cX11_check 62 = .ok (.iconst 0, 1) := by decide +kernel
theorem dX11_check_63 : decode cX11_check 63 = .ok (.ireturn, 1) := by decide +kernel
theorem dX11_count_0 : decode cX11_count 0 = .ok (.iconst 0, 1) := by decide +kernel
theorem dX11_count_1 : decode cX11_count 1 = .ok (.istore_n 2, 1) := by decide +kernel
theorem dX11_count_2 : decode cX11_count 2 = .ok (.iload_n 1, 1) := by decide +kernel
theorem dX11_count_3 : decode cX11_count 3 = .ok (.tableswitch 141 0 7 #[45, 52, 57, 64, 93, 100, 107, 112], 45) := by decide +kernel
theorem dX11_count_48 : decode cX11_count 48 = .ok (.aload_n 0, 1) := by decide +kernel
theorem dX11_count_49 : decode cX11_count 49 = .ok (.getfield 9, 3) := by decide +kernel
theorem dX11_count_52 : decode cX11_count 52 = .ok (.iconst 0, 1) := by decide +kernel
theorem dX11_count_53 : decode cX11_count 53 = .ok (.iaload, 1) := by decide +kernel
theorem dX11_count_54 : decode cX11_count 54 = .ok (.ireturn, 1) := by decide +kernel
theorem dX11_count_55 : decode cX11_count 55 = .ok (.aload_n 0, 1) := by decide +kernel
theorem dX11_count_56 : decode cX11_count 56 = .ok (.invokevirtual 248, 3) := by decide +kernel
theorem dX11_count_59 : decode cX11_count 59 = .ok (.ireturn, 1) := by decide +kernel
theorem dX11_count_60 : decode cX11_count 60 = .ok (.aload_n 0, 1) := by decide +kernel
theorem dX11_count_61 : decode cX11_count 61 = .ok (.getfield 9, 3) := by decide +kernel
theorem dX11_count_64 : decode cX11_count 64 = .ok (.iconst 1, 1) := by decide +kernel
theorem dX11_count_65 : decode cX11_count 65 = .ok (.iaload, 1) := by decide +kernel
theorem dX11_count_66 : decode cX11_count 66 = .ok (.ireturn, 1) := by decide +kernel
theorem dX11_count_67 : decode cX11_count 67 = .ok (.iconst 0, 1) := by decide +kernel
theorem dX11_count_68 : decode cX11_count 68 = .ok (.istore_n 3, 1) := by decide +kernel
theorem dX11_count_69 : decode cX11_count 69 = .ok (.iload_n 3, 1) := by decide +kernel
theorem dX11_count_70 : decode cX11_count 70 = .ok (.aload_n 0, 1) := by decide +kernel
theorem dX11_count_71 : decode cX11_count 71 = .ok (.getfield 9, 3) := by decide +kernel
theorem dX11_count_74 : decode cX11_count 74 = .ok (.iconst 1, 1) := by decide +kernel
theorem dX11_count_75 : decode cX11_count 75 = .ok (.iaload, 1) := by decide +kernel
theorem dX11_count_76 : decode cX11_count 76 = .ok (.if_icmp .ge 18, 3) := by decide +kernel
theorem dX11_count_79 : decode cX11_count 79 = .ok (.iload_n 2, 1) := by decide +kernel
theorem dX11_count_80 : decode cX11_count 80 = .ok (.aload_n 0, 1) := by decide +kernel
theorem dX11_count_81 : decode cX11_count 81 = .ok (.iload_n 3, 1) := by decide +kernel
theorem dX11_count_82 : decode cX11_count 82 = .ok (.iconst 3, 1) := by decide +kernel
theorem dX11_count_83 : decode cX11_count 83 = .ok (.invokevirtual 97, 3) := by decide +kernel
theorem dX11_count_86 : decode cX11_count 86 = .ok (.iadd, 1) := by decide +kernel
theorem dX11_count_87 : decode cX11_count 87 = .ok (.istore_n 2, 1) := by decide +kernel
theorem dX11_count_88 : decode cX11_count 88 = .ok (.iinc 3 1, 3) := by decide +kernel
theorem dX11_count_91 : decode cX11_count 91 = .ok (.goto (-22), 3) := by decide +kernel
theorem dX11_count_94 : decode cX11_count 94 = .ok (.iload_n 2, 1) := by decide +kernel
theorem dX11_count_95 : decode cX11_count 95 = .ok (.ireturn, 1) := by decide +kernel
theorem dX11_count_96 : decode cX11_count 96 = .ok (.aload_n 0, 1) := by decide +kernel
theorem dX11_count_97 : decode cX11_count 97 = .ok (.getfield 9, 3) := by decide +kernel
theorem dX11_count_100 : decode cX11_count 100 = .ok (.iconst 3, 1) := by decide +kernel
theorem dX11_count_101 : decode cX11_count 101 = .ok (.iaload, 1) := by decide +kernel
theorem dX11_count_102 : decode cX11_count 102 = .ok (.ireturn, 1) := by decide +kernel
theorem dX11_count_103 : decode cX11_count 103 = .ok (.aload_n 0, 1) := by decide +kernel
theorem dX11_count_104 : decode cX11_count 104 = .ok (.getfield 9, 3) := by decide +kernel
theorem dX11_count_107 : decode cX11_count 107 = .ok (.iconst 4, 1) := by decide +kernel
theorem dX11_count_108 : decode cX11_count 108 = .ok (.iaload, 1) := by decide +kernel
theorem dX11_count_109 : decode cX11_count 109 = .ok (.ireturn, 1) := by decide +kernel
theorem dX11_count_110 : decode cX11_count 110 = .ok (.aload_n 0, 1) := by decide +kernel
theorem dX11_count_111 : decode cX11_count 111 = .ok (.getfield 271, 3) := by decide +kernel
theorem dX11_count_114 : decode cX11_count 114 = .ok (.ireturn, 1) := by decide +kernel
theorem dX11_count_115 : decode cX11_count 115 = .ok (.iconst 0, 1) := by decide +kernel
theorem dX11_count_116 : decode cX11_count 116 = .ok (.istore_n 3, 1) := by decide +kernel
theorem dX11_count_117 : decode cX11_count 117 = .ok (.iload_n 3, 1) := by decide +kernel
theorem dX11_count_118 : decode cX11_count 118 = .ok (.sipush 144, 3) := by decide +kernel
theorem dX11_count_121 : decode cX11_count 121 = .ok (.if_icmp .ge 21, 3) := by decide +kernel
theorem dX11_count_124 : decode cX11_count 124 = .ok (.iload_n 2, 1) := by decide +kernel
theorem dX11_count_125 : decode cX11_count 125 = .ok (.aload_n 0, 1) := by decide +kernel
theorem dX11_count_126 : decode cX11_count 126 = .ok (.getfield 9, 3) := by decide +kernel
theorem dX11_count_129 : decode cX11_count 129 = .ok (.bipush 41, 2) := by decide +kernel
theorem dX11_count_131 : decode cX11_count 131 = .ok (.iload_n 3, 1) := by decide +kernel
theorem dX11_count_132 : decode cX11_count 132 = .ok (.iadd, 1) := by decide +kernel
theorem dX11_count_133 : decode cX11_count 133 = .ok (.iaload, 1) := by decide +kernel
theorem dX11_count_134 : decode cX11_count 134 = .ok (.iadd, 1) := by decide +kernel
theorem dX11_count_135 : decode cX11_count 135 = .ok (.istore_n 2, 1) := by decide +kernel
theorem dX11_count_136 : decode cX11_count 136 = .ok (.iinc 3 1, 3) := by decide +kernel
theorem dX11_count_139 : decode cX11_count 139 = .ok (.goto (-22), 3) := by decide +kernel
theorem dX11_count_142 : decode cX11_count 142 = .ok (.iload_n 2, 1) := by decide +kernel
theorem dX11_count_143 : decode cX11_count 143 = .ok (.ireturn, 1) := by decide +kernel
theorem dX11_count_144 : decode cX11_count 144 = .ok (.aload_n 0, 1) := by decide +kernel
theorem dX11_count_145 : decode cX11_count 145 = .ok (.ldc 87, 2) := by decide +kernel
theorem dX11_count_147 : decode cX11_count 147 = .ok (.invokevirtual 88, 3) := by decide +kernel
theorem dX11_count_150 : decode cX11_count 150 = .ok (.ireturn, 1) := by decide +kernel
theorem dX11_told_0 : decode cX11_told 0 = .ok (.iload_n 1, 1) := by decide +kernel
theorem dX11_told_1 : decode cX11_told 1 = .ok (.iconst 1, 1) := by decide +kernel
theorem dX11_told_2 : decode cX11_told 2 = .ok (.bipush 6, 2) := by decide +kernel
theorem dX11_told_4 : decode cX11_told 4 = .ok (.invokestatic 83, 3) := by decide +kernel
theorem dX11_told_7 : decode cX11_told 7 = .ok (.ifCond .eq 12, 3) := by decide +kernel
theorem dX11_told_10 : decode cX11_told 10 = .ok (.aload_n 0, 1) := by decide +kernel
theorem dX11_told_11 : decode cX11_told 11 = .ok (.getfield 19, 3) := by decide +kernel
theorem dX11_told_14 : decode cX11_told 14 = .ok (.iload_n 1, 1) := by decide +kernel
theorem dX11_told_15 : decode cX11_told 15 = .ok (.iaload, 1) := by decide +kernel
theorem dX11_told_16 : decode cX11_told 16 = .ok (.goto 9, 3) := by decide +kernel
theorem dX11_told_19 : decode cX11_told 19 = .ok (.aload_n 0, 1) := by decide +kernel
theorem dX11_told_20 : decode cX11_told 20 = .ok (.ldc 87, 2) := by decide +kernel
theorem dX11_told_22 : decode cX11_told 22 = .ok (.invokevirtual 88, 3) := by decide +kernel
theorem dX11_told_25 : decode cX11_told 25 = .ok (.ireturn, 1) := by decide +kernel
