theorem dX6_init_0 : decode cX6_init 0 = .ok (.aload_n 0, 1) := by decide +kernel
theorem dX6_init_1 : decode cX6_init 1 = .ok (.invokespecial 1, 3) := by decide +kernel
theorem dX6_init_4 : decode cX6_init 4 = .ok (.aload_n 0, 1) := by decide +kernel
theorem dX6_init_5 : decode cX6_init 5 = .ok (.bipush 68, 2) := by decide +kernel
theorem dX6_init_7 : decode cX6_init 7 = .ok (.newarray .int, 2) := by decide +kernel
theorem dX6_init_9 : decode cX6_init 9 = .ok (.putfield 9, 3) := by decide +kernel
theorem dX6_init_12 : decode cX6_init 12 = .ok (.aload_n 0, 1) := by decide +kernel
theorem dX6_init_13 : decode cX6_init 13 = .ok (.bipush 68, 2) := by decide +kernel
theorem dX6_init_15 : decode cX6_init 15 = .ok (.newarray .int, 2) := by decide +kernel
theorem dX6_init_17 : decode cX6_init 17 = .ok (.putfield 13, 3) := by decide +kernel
theorem dX6_init_20 : decode cX6_init 20 = .ok (.aload_n 0, 1) := by decide +kernel
theorem dX6_init_21 : decode cX6_init 21 = .ok (.bipush 68, 2) := by decide +kernel
theorem dX6_init_23 : decode cX6_init 23 = .ok (.newarray .int, 2) := by decide +kernel
theorem dX6_init_25 : decode cX6_init 25 = .ok (.putfield 16, 3) := by decide +kernel
theorem dX6_init_28 : decode cX6_init 28 = .ok (.aload_n 0, 1) := by decide +kernel
theorem dX6_init_29 : decode cX6_init 29 = .ok (.bipush 8, 2) := by decide +kernel
theorem dX6_init_31 : decode cX6_init 31 = .ok (.newarray .int, 2) := by decide +kernel
theorem dX6_init_33 : decode cX6_init 33 = .ok (.putfield 19, 3) := by decide +kernel
theorem dX6_init_36 : decode cX6_init 36 = .ok (.aload_n 0, 1) := by decide +kernel
theorem dX6_init_37 : decode cX6_init 37 = .ok (.sipush 1053, 3) := by decide +kernel
theorem dX6_init_40 : decode cX6_init 40 = .ok (.newarray .int, 2) := by decide +kernel
theorem dX6_init_42 : decode cX6_init 42 = .ok (.putfield 22, 3) := by decide +kernel
theorem dX6_init_45 : decode cX6_init 45 = .ok (.aload_n 0, 1) := by decide +kernel
theorem dX6_init_46 : decode cX6_init 46 = .ok (.sipush 972, 3) := by decide +kernel
theorem dX6_init_49 : decode cX6_init 49 = .ok (.newarray .boolean, 2) := by decide +kernel
theorem dX6_init_51 : decode cX6_init 51 = .ok (.putfield 25, 3) := by decide +kernel
theorem dX6_init_54 : decode cX6_init 54 = .ok (.aload_n 0, 1) := by decide +kernel
theorem dX6_init_55 : decode cX6_init 55 = .ok (.sipush 1053, 3) := by decide +kernel
theorem dX6_init_58 : decode cX6_init 58 = .ok (.newarray .int, 2) := by decide +kernel
theorem dX6_init_60 : decode cX6_init 60 = .ok (.putfield 29, 3) := by decide +kernel
theorem dX6_init_63 : decode cX6_init 63 = .ok (.aload_n 0, 1) := by decide +kernel
theorem dX6_init_64 : decode cX6_init 64 = .ok (.bipush 120, 2) := by decide +kernel
theorem dX6_init_66 : decode cX6_init 66 = .ok (.newarray .int, 2) := by decide +kernel
theorem dX6_init_68 : decode cX6_init 68 = .ok (.putfield 32, 3) := by decide +kernel
theorem dX6_init_71 : decode cX6_init 71 = .ok (.aload_n 0, 1) := by decide +kernel
theorem dX6_init_72 : decode cX6_init 72 = .ok (.bipush 7, 2) := by decide +kernel
theorem dX6_init_74 : decode cX6_init 74 = .ok (.anewarray 35, 3) := by decide +kernel
theorem dX6_init_77 : decode cX6_init 77 = .ok (.dup, 1) := by decide +kernel
theorem dX6_init_78 : decode cX6_init 78 = .ok (.iconst 0, 1) := by decide +kernel
theorem dX6_init_79 : decode cX6_init 79 = .ok (.ldc 37, 2) := by decide +kernel
theorem dX6_init_81 : decode cX6_init 81 = .ok (.aastore, 1) := by decide +kernel
theorem dX6_init_82 : decode cX6_init 82 = .ok (.dup, 1) := by decide +kernel
theorem dX6_init_83 : decode cX6_init 83 = .ok (.iconst 1, 1) := by decide +kernel
theorem dX6_init_84 : decode cX6_init 84 = .ok (.ldc 39, 2) := by decide +kernel
theorem dX6_init_86 : decode cX6_init 86 = .ok (.aastore, 1) := by decide +kernel
theorem dX6_init_87 : decode cX6_init 87 = .ok (.dup, 1) := by decide +kernel
theorem dX6_init_88 : decode cX6_init 88 = .ok (.iconst 2, 1) := by decide +kernel
theorem dX6_init_89 : decode cX6_init 89 = .ok (.ldc 41, 2) := by decide +kernel
theorem dX6_init_91 : decode cX6_init 91 = .ok (.aastore, 1) := by decide +kernel
theorem dX6_init_92 : decode cX6_init 92 = .ok (.dup, 1) := by decide +kernel
theorem dX6_init_93 : decode cX6_init 93 = .ok (.iconst 3, 1) := by decide +kernel
theorem dX6_init_94 : decode cX6_init 94 = .ok (.ldc 43, 2) := by decide +kernel
theorem dX6_init_96 : decode cX6_init 96 = .ok (.aastore, 1) := by decide +kernel
theorem dX6_init_97 : decode cX6_init 97 = .ok (.dup, 1) := by decide +kernel
theorem dX6_init_98 : decode cX6_init 98 = .ok (.iconst 4, 1) := by decide +kernel
theorem dX6_init_99 : decode cX6_init 99 = .ok (.ldc 45, 2) := by decide +kernel
theorem dX6_init_101 : decode cX6_init 101 = .ok (.aastore, 1) := by decide +kernel
theorem dX6_init_102 : decode cX6_init 102 = .ok (.dup, 1) := by decide +kernel
theorem dX6_init_103 : decode cX6_init 103 = .ok (.iconst 5, 1) := by decide +kernel
theorem dX6_init_104 : decode cX6_init 104 = .ok (.ldc 47, 2) := by decide +kernel
theorem dX6_init_106 : decode cX6_init 106 = .ok (.aastore, 1) := by decide +kernel
theorem dX6_init_107 : decode cX6_init 107 = .ok (.dup, 1) := by decide +kernel
theorem dX6_init_108 : decode cX6_init 108 = .ok (.bipush 6, 2) := by decide +kernel
theorem dX6_init_110 : decode cX6_init 110 = .ok (.ldc 49, 2) := by decide +kernel
theorem dX6_init_112 : decode cX6_init 112 = .ok (.aastore, 1) := by decide +kernel
theorem dX6_init_113 : decode cX6_init 113 = .ok (.putfield 51, 3) := by decide +kernel
theorem dX6_init_116 : decode cX6_init 116 = .ok (.aload_n 0, 1) := by decide +kernel
theorem dX6_init_117 : decode cX6_init 117 = .ok (.sipush 360, 3) := by decide +kernel
theorem dX6_init_120 : decode cX6_init 120 = .ok (.newarray .int, 2) := by decide +kernel
theorem dX6_init_122 : decode cX6_init 122 = .ok (.putfield 55, 3) := by decide +kernel
theorem dX6_init_125 : decode cX6_init 125 = .ok (.aload_n 0, 1) := by decide +kernel
theorem dX6_init_126 : decode cX6_init 126 = .ok (.iconst 4, 1) := by decide +kernel
theorem dX6_init_127 : decode cX6_init 127 = .ok (.newarray .int, 2) := by decide +kernel
theorem dX6_init_129 : decode cX6_init 129 = .ok (.putfield 58, 3) := by decide +kernel
theorem dX6_init_132 : decode cX6_init 132 = .ok (.aload_n 0, 1) := by decide +kernel
theorem dX6_init_133 : decode cX6_init 133 = .ok (.iconst 4, 1) := by decide +kernel
theorem dX6_init_134 : decode cX6_init 134 = .ok (.newarray .int, 2) := by decide +kernel
theorem dX6_init_136 : decode cX6_init 136 = .ok (.putfield 61, 3) := by decide +kernel
theorem dX6_init_139 : decode cX6_init 139 = .ok (.aload_n 0, 1) := by decide +kernel
theorem dX6_init_140 : decode cX6_init 140 = .ok (.sipush 160, 3) := by decide +kernel
theorem dX6_init_143 : decode cX6_init 143 = .ok (.newarray .int, 2) := by decide +kernel
theorem dX6_init_145 : decode cX6_init 145 = .ok (.putfield 64, 3) := by decide +kernel
theorem dX6_init_148 : decode cX6_init 148 = .ok (.aload_n 0, 1) := by decide +kernel
theorem dX6_init_149 : decode cX6_init 149 = .ok (.bipush 40, 2) := by decide +kernel
theorem dX6_init_151 : decode cX6_init 151 = .ok (.newarray .int, 2) := by decide +kernel
theorem dX6_init_153 : decode cX6_init 153 = .ok (.putfield 67, 3) := by decide +kernel
theorem dX6_init_156 : decode cX6_init 156 = .ok (.aload_n 0, 1) := by decide +kernel
theorem dX6_init_157 : decode cX6_init 157 = .ok (.getfield 9, 3) := by decide +kernel
theorem dX6_init_160 : decode cX6_init 160 = .ok (.iconst 2, 1) := by decide +kernel
theorem dX6_init_161 : decode cX6_init 161 = .ok (.iconst (-1), 1) := by decide +kernel
theorem dX6_init_162 : decode cX6_init 162 = .ok (.iastore, 1) := by decide +kernel
theorem dX6_init_163 : decode cX6_init 163 = .ok (.aload_n 0, 1) := by decide +kernel
theorem dX6_init_164 : decode cX6_init 164 = .ok (.getfield 9, 3) := by decide +kernel
theorem dX6_init_167 : decode cX6_init 167 = .ok (.iconst 3, 1) := by decide +kernel
theorem dX6_init_168 : decode cX6_init 168 = .ok (.iconst (-1), 1) := by decide +kernel
theorem dX6_init_169 : decode cX6_init 169 = .ok (.iastore, 1) := by decide +kernel
theorem dX6_init_170 : decode cX6_init 170 = .ok (.aload_n 0, 1) := by decide +kernel
theorem dX6_init_171 : decode cX6_init 171 = .ok (.getfield 9, 3) := by decide +kernel
theorem dX6_init_174 : decode cX6_init 174 = .ok (.bipush 9, 2) := by decide +kernel
theorem dX6_init_176 : decode cX6_init 176 = .ok (.iconst 1, 1) := by decide +kernel
theorem dX6_init_177 : decode cX6_init 177 = .ok (.iastore, 1) := by decide +kernel
theorem dX6_init_178 : decode cX6_init 178 = .ok (.iconst 0, 1) := by decide +kernel
theorem dX6_init_179 : decode cX6_init 179 = .ok (.istore_n 1, 1) := by decide +kernel
theorem dX6_init_180 : decode cX6_init 180 = .ok (.iload_n 1, 1) := by decide +kernel
theorem dX6_init_181 : decode cX6_init 181 = .ok (.bipush 10, 2) := by decide +kernel
theorem dX6_init_183 : decode cX6_init 183 = .ok (.if_icmp .ge 19, 3) := by decide +kernel
theorem dX6_init_186 : decode cX6_init 186 = .ok (.aload_n 0, 1) := by decide +kernel
theorem dX6_init_187 : decode cX6_init 187 = .ok (.getfield 9, 3) := by decide +kernel
theorem dX6_init_190 : decode cX6_init 190 = .ok (.bipush 10, 2) := by decide +kernel
theorem dX6_init_192 : decode cX6_init 192 = .ok (.iload_n 1, 1) := by decide +kernel
theorem dX6_init_193 : decode cX6_init 193 = .ok (.iadd, 1) := by decide +kernel
theorem dX6_init_194 : decode cX6_init 194 = .ok (.iconst (-1), 1) := by decide +kernel
theorem dX6_init_195 : decode cX6_init 195 = .ok (.iastore, 1) := by decide +kernel
theorem dX6_init_196 : decode cX6_init 196 = .ok (.iinc 1 1, 3) := by decide +kernel
theorem dX6_init_199 : decode cX6_init 199 = .ok (.goto (-19), 3) := by decide +kernel
theorem dX6_init_202 : decode cX6_init 202 = .ok (.return_, 1) := by decide +kernel
theorem dX6_finding_0 : decode cX6_finding 0 = .ok (.aload_n 0, 1) := by decide +kernel
theorem dX6_finding_1 : decode cX6_finding 1 = .ok (.getfield 19, 3) := by decide +kernel
theorem dX6_finding_4 : decode cX6_finding 4 = .ok (.ldc 70, 2) := by decide +kernel
theorem dX6_finding_6 : decode cX6_finding 6 = .ok (.iload_n 1, 1) := by decide +kernel
theorem dX6_finding_7 : decode cX6_finding 7 = .ok (.isub, 1) := by decide +kernel
theorem dX6_finding_8 : decode cX6_finding 8 = .ok (.iconst 1, 1) := by decide +kernel
theorem dX6_finding_9 : decode cX6_finding 9 = .ok (.iadd, 1) := by decide +kernel
theorem dX6_finding_10 : decode cX6_finding 10 = .ok (.dup2, 1) := by decide +kernel
theorem dX6_finding_11 : decode cX6_finding 11 = .ok (.iaload, 1) := by decide +kernel
theorem dX6_finding_12 : decode cX6_finding 12 = .ok (.iconst 1, 1) := by decide +kernel
theorem dX6_finding_13 : decode cX6_finding 13 = .ok (.iadd, 1) := by decide +kernel
theorem dX6_finding_14 : decode cX6_finding 14 = .ok (.iastore, 1) := by decide +kernel
theorem dX6_finding_15 : decode cX6_finding 15 = .ok (.aload_n 0, 1) := by decide +kernel
theorem dX6_finding_16 : decode cX6_finding 16 = .ok (.getfield 19, 3) := by decide +kernel
theorem dX6_finding_19 : decode cX6_finding 19 = .ok (.iconst 0, 1) := by decide +kernel
theorem dX6_finding_20 : decode cX6_finding 20 = .ok (.dup2, 1) := by decide +kernel
theorem dX6_finding_21 : decode cX6_finding 21 = .ok (.iaload, 1) := by decide +kernel
theorem dX6_finding_22 : decode cX6_finding 22 = .ok (.iconst 1, 1) := by decide +kernel
theorem dX6_finding_23 : decode cX6_finding 23 = .ok (.iadd, 1) := by decide +kernel
theorem dX6_finding_24 : decode cX6_finding 24 = .ok (.iastore, 1) := by decide +kernel
theorem dX6_finding_25 : decode cX6_finding 25 = .ok (.iload_n 1, 1) := by decide +kernel
theorem dX6_finding_26 : decode cX6_finding 26 = .ok (.ireturn, 1) := by decide +kernel
theorem dX6_within_0 : decode cX6_within 0 = .ok (.iload_n 0, 1) := by decide +kernel
theorem dX6_within_1 : decode cX6_within 1 = .ok (.iload_n 1, 1) := by decide +kernel
theorem dX6_within_2 : decode cX6_within 2 = .ok (.if_icmp .lt 12, 3) := by decide +kernel
theorem dX6_within_5 : decode cX6_within 5 = .ok (.iload_n 0, 1) := by decide +kernel
theorem dX6_within_6 : decode cX6_within 6 = .ok (.iload_n 2, 1) := by decide +kernel
theorem dX6_within_7 : decode cX6_within 7 = .ok (.if_icmp .gt 7, 3) := by decide +kernel
theorem dX6_within_10 : decode cX6_within 10 = .ok (.iconst 1, 1) := by decide +kernel
theorem dX6_within_11 : decode cX6_within 11 = .ok (.goto 4, 3) := by decide +kernel
theorem dX6_within_14 : decode cX6_within 14 = .ok (.iconst 0, 1) := by decide +kernel
theorem dX6_within_15 : decode cX6_within 15 = .ok (.ireturn, 1) := by decide +kernel
theorem dX6_become_0 : decode cX6_become 0 = .ok (.aload_n 0, 1) := by decide +kernel
theorem dX6_become_1 : decode cX6_become 1 = .ok (.getfield 9, 3) := by decide +kernel
theorem dX6_become_4 : decode cX6_become 4 = .ok (.iload_n 1, 1) := by decide +kernel
theorem dX6_become_5 : decode cX6_become 5 = .ok (.iaload, 1) := by decide +kernel
theorem dX6_become_6 : decode cX6_become 6 = .ok (.istore_n 3, 1) := by decide +kernel
theorem dX6_become_7 : decode cX6_become 7 = .ok (.aload_n 0, 1) := by decide +kernel
theorem dX6_become_8 : decode cX6_become 8 = .ok (.getfield 9, 3) := by decide +kernel
theorem dX6_become_11 : decode cX6_become 11 = .ok (.iload_n 1, 1) := by decide +kernel
theorem dX6_become_12 : decode cX6_become 12 = .ok (.iload_n 2, 1) := by decide +kernel
theorem dX6_become_13 : decode cX6_become 13 = .ok (.iastore, 1) := by decide +kernel
theorem dX6_become_14 : decode cX6_become 14 = .ok (.iload_n 3, 1) := by decide +kernel
theorem dX6_become_15 : decode cX6_become 15 = .ok (.ireturn, 1) := by decide +kernel
theorem dX6_copyRow_0 : decode cX6_copyRow 0 = .ok (.iconst 0, 1) := by decide +kernel
theorem dX6_copyRow_1 : decode cX6_copyRow 1 = .ok (.istore_n 2, 1) := by decide +kernel
theorem dX6_copyRow_2 : decode cX6_copyRow 2 = .ok (.iload_n 2, 1) := by decide +kernel
theorem dX6_copyRow_3 : decode cX6_copyRow 3 = .ok (.bipush 68, 2) := by decide +kernel
theorem dX6_copyRow_5 : decode cX6_copyRow 5 = .ok (.if_icmp .ge 15, 3) := by decide +kernel
theorem dX6_copyRow_8 : decode cX6_copyRow 8 = .ok (.aload_n 1, 1) := by decide +kernel
theorem dX6_copyRow_9 : decode cX6_copyRow 9 = .ok (.iload_n 2, 1) := by decide +kernel
theorem dX6_copyRow_10 : decode cX6_copyRow 10 = .ok (.aload_n 0, 1) := by decide +kernel
theorem dX6_copyRow_11 : decode cX6_copyRow 11 = .ok (.iload_n 2, 1) := by decide +kernel
theorem dX6_copyRow_12 : decode cX6_copyRow 12 = .ok (.iaload, 1) := by decide +kernel
theorem dX6_copyRow_13 : decode cX6_copyRow 13 = .ok (.iastore, 1) := by decide +kernel
theorem dX6_copyRow_14 : decode cX6_copyRow 14 = .ok (.iinc 2 1, 3) := by decide +kernel
theorem dX6_copyRow_17 : decode cX6_copyRow 17 = .ok (.goto (-15), 3) := by decide +kernel
theorem dX6_copyRow_20 : decode cX6_copyRow 20 = .ok (.return_, 1) := by decide +kernel
theorem dX6_putBack_0 : decode cX6_putBack 0 = .ok (.aload_n 0, 1) := by decide +kernel
theorem dX6_putBack_1 : decode cX6_putBack 1 = .ok (.getfield 16, 3) := by decide +kernel
theorem dX6_putBack_4 : decode cX6_putBack 4 = .ok (.aload_n 0, 1) := by decide +kernel
theorem dX6_putBack_5 : decode cX6_putBack 5 = .ok (.getfield 9, 3) := by decide +kernel
theorem dX6_putBack_8 : decode cX6_putBack 8 = .ok (.invokestatic 71, 3) := by decide +kernel
theorem dX6_putBack_11 : decode cX6_putBack 11 = .ok (.iload_n 1, 1) := by decide +kernel
theorem dX6_putBack_12 : decode cX6_putBack 12 = .ok (.ireturn, 1) := by decide +kernel
theorem dX6_has_0 : decode cX6_has 0 = .ok (.iload_n 0, 1) := by decide +kernel
theorem dX6_has_1 : decode cX6_has 1 = .ok (.iload_n 1, 1) := by decide +kernel
theorem dX6_has_2 : decode cX6_has 2 = .ok (.ishr, 1) := by decide +kernel
theorem dX6_has_3 : decode cX6_has 3 = .ok (.iconst 1, 1) := by decide +kernel
theorem dX6_has_4 : decode cX6_has 4 = .ok (.iand, 1) := by decide +kernel
theorem dX6_has_5 : decode cX6_has 5 = .ok (.iconst 1, 1) := by decide +kernel
theorem dX6_has_6 : decode cX6_has 6 = .ok (.if_icmp .ne 7, 3) := by decide +kernel
theorem dX6_has_9 : decode cX6_has 9 = .ok (.iconst 1, 1) := by decide +kernel
theorem dX6_has_10 : decode cX6_has 10 = .ok (.goto 4, 3) := by decide +kernel
theorem dX6_has_13 : decode cX6_has 13 = .ok (.iconst 0, 1) := by decide +kernel
theorem dX6_has_14 : decode cX6_has 14 = .ok (.ireturn, 1) := by decide +kernel
theorem dX6_bits_0 : decode cX6_bits 0 = .ok (.iconst 0, 1) := by decide +kernel
theorem dX6_bits_1 : decode cX6_bits 1 = .ok (.istore_n 1, 1) := by decide +kernel
theorem dX6_bits_2 : decode cX6_bits 2 = .ok (.iload_n 0, 1) := by decide +kernel
theorem dX6_bits_3 : decode cX6_bits 3 = .ok (.istore_n 2, 1) := by decide +kernel
theorem dX6_bits_4 : decode cX6_bits 4 = .ok (.iload_n 2, 1) := by decide +kernel
theorem dX6_bits_5 : decode cX6_bits 5 = .ok (.ifCond .eq 15, 3) := by decide +kernel
theorem dX6_bits_8 : decode cX6_bits 8 = .ok (.iinc 1 1, 3) := by decide +kernel
theorem dX6_bits_11 : decode cX6_bits 11 = .ok (.iload_n 2, 1) := by decide +kernel
theorem dX6_bits_12 : decode cX6_bits 12 = .ok (.iload_n 2, 1) := by decide +kernel
theorem dX6_bits_13 : decode cX6_bits 13 = .ok (.iconst 1, 1) := by decide +kernel
theorem dX6_bits_14 : decode cX6_bits 14 = .ok (.isub, 1) := by decide +kernel
theorem dX6_bits_15 : decode cX6_bits 15 = .ok (.iand, 1) := by decide +kernel
theorem dX6_bits_16 : decode cX6_bits 16 = .ok (.istore_n 2, 1) := by decide +kernel
theorem dX6_bits_17 : decode cX6_bits 17 = .ok (.goto (-13), 3) := by decide +kernel
theorem dX6_bits_20 : decode cX6_bits 20 = .ok (.iload_n 1, 1) := by decide +kernel
theorem dX6_bits_21 : decode cX6_bits 21 = .ok (.ireturn, 1) := by decide +kernel
theorem dX6_isDoll_0 : decode cX6_isDoll 0 = .ok (.iload_n 1, 1) := by decide +kernel
theorem dX6_isDoll_1 : decode cX6_isDoll 1 = .ok (.iconst 0, 1) := by decide +kernel
theorem dX6_isDoll_2 : decode cX6_isDoll 2 = .ok (.aload_n 0, 1) := by decide +kernel
theorem dX6_isDoll_3 : decode cX6_isDoll 3 = .ok (.getfield 9, 3) := by decide +kernel
theorem dX6_isDoll_6 : decode cX6_isDoll 6 = .ok (.iconst 0, 1) := by decide +kernel
theorem dX6_isDoll_7 : decode cX6_isDoll 7 = .ok (.iaload, 1) := by decide +kernel
theorem dX6_isDoll_8 : decode cX6_isDoll 8 = .ok (.iconst 1, 1) := by decide +kernel
theorem dX6_isDoll_9 : decode cX6_isDoll 9 = .ok (.isub, 1) := by decide +kernel
theorem dX6_isDoll_10 : decode cX6_isDoll 10 = .ok (.invokestatic 75, 3) := by decide +kernel
theorem dX6_isDoll_13 : decode cX6_isDoll 13 = .ok (.ireturn, 1) := by decide +kernel
theorem dX6_isBeat_0 : decode cX6_isBeat 0 = .ok (.iload_n 1, 1) := by decide +kernel
theorem dX6_isBeat_1 : decode cX6_isBeat 1 = .ok (.iconst 0, 1) := by decide +kernel
theorem dX6_isBeat_2 : decode cX6_isBeat 2 = .ok (.aload_n 0, 1) := by decide +kernel
theorem dX6_isBeat_3 : decode cX6_isBeat 3 = .ok (.getfield 9, 3) := by decide +kernel
theorem dX6_isBeat_6 : decode cX6_isBeat 6 = .ok (.iconst 1, 1) := by decide +kernel
theorem dX6_isBeat_7 : decode cX6_isBeat 7 = .ok (.iaload, 1) := by decide +kernel
theorem dX6_isBeat_8 : decode cX6_isBeat 8 = .ok (.iconst 1, 1) := by decide +kernel
theorem dX6_isBeat_9 : decode cX6_isBeat 9 = .ok (.isub, 1) := by decide +kernel
theorem dX6_isBeat_10 : decode cX6_isBeat 10 = .ok (.invokestatic 75, 3) := by decide +kernel
theorem dX6_isBeat_13 : decode cX6_isBeat 13 = .ok (.ireturn, 1) := by decide +kernel
theorem dX6_isKind_0 : decode cX6_isKind 0 = .ok (.iload_n 0, 1) := by decide +kernel
theorem dX6_isKind_1 : decode cX6_isKind 1 = .ok (.iconst 0, 1) := by decide +kernel
theorem dX6_isKind_2 : decode cX6_isKind 2 = .ok (.bipush 6, 2) := by decide +kernel
theorem dX6_isKind_4 : decode cX6_isKind 4 = .ok (.invokestatic 75, 3) := by decide +kernel
theorem dX6_isKind_7 : decode cX6_isKind 7 = .ok (.ireturn, 1) := by decide +kernel
theorem dX6_isWhat_0 : decode cX6_isWhat 0 = .ok (.iload_n 0, 1) := by decide +kernel
theorem dX6_isWhat_1 : decode cX6_isWhat 1 = .ok (.iconst 0, 1) := by decide +kernel
theorem dX6_isWhat_2 : decode cX6_isWhat 2 = .ok (.iconst 1, 1) := by decide +kernel
theorem dX6_isWhat_3 : decode cX6_isWhat 3 = .ok (.invokestatic 75, 3) := by decide +kernel
theorem dX6_isWhat_6 : decode cX6_isWhat 6 = .ok (.ireturn, 1) := by decide +kernel
theorem dX6_isCast_0 : decode cX6_isCast 0 = .ok (.iload_n 1, 1) := by decide +kernel
theorem dX6_isCast_1 : decode cX6_isCast 1 = .ok (.iconst 0, 1) := by decide +kernel
theorem dX6_isCast_2 : decode cX6_isCast 2 = .ok (.iconst 1, 1) := by decide +kernel
theorem dX6_isCast_3 : decode cX6_isCast 3 = .ok (.aload_n 0, 1) := by decide +kernel
theorem dX6_isCast_4 : decode cX6_isCast 4 = .ok (.getfield 9, 3) := by decide +kernel
theorem dX6_isCast_7 : decode cX6_isCast 7 = .ok (.iconst 0, 1) := by decide +kernel
theorem dX6_isCast_8 : decode cX6_isCast 8 = .ok (.iaload, 1) := by decide +kernel
theorem dX6_isCast_9 : decode cX6_isCast 9 = .ok (.ishl, 1) := by decide +kernel
theorem dX6_isCast_10 : decode cX6_isCast 10 = .ok (.iconst 1, 1) := by decide +kernel
theorem dX6_isCast_11 : decode cX6_isCast 11 = .ok (.isub, 1) := by decide +kernel
theorem dX6_isCast_12 : decode cX6_isCast 12 = .ok (.invokestatic 75, 3) := by decide +kernel
theorem dX6_isCast_15 : decode cX6_isCast 15 = .ok (.ireturn, 1) := by decide +kernel
theorem dX6_at_0 : decode cX6_at 0 = .ok (.bipush 20, 2) := by decide +kernel
theorem dX6_at_2 : decode cX6_at 2 = .ok (.iconst 3, 1) := by decide +kernel
theorem dX6_at_3 : decode cX6_at 3 = .ok (.iload_n 0, 1) := by decide +kernel
theorem dX6_at_4 : decode cX6_at 4 = .ok (.imul, 1) := by decide +kernel
theorem dX6_at_5 : decode cX6_at 5 = .ok (.iadd, 1) := by decide +kernel
theorem dX6_at_6 : decode cX6_at 6 = .ok (.iload_n 1, 1) := by decide +kernel
theorem dX6_at_7 : decode cX6_at 7 = .ok (.iadd, 1) := by decide +kernel
theorem dX6_at_8 : decode cX6_at 8 = .ok (.ireturn, 1) := by decide +kernel
theorem dX6_dollIs_0 : decode cX6_dollIs 0 = .ok (.aload_n 0, 1) := by decide +kernel
theorem dX6_dollIs_1 : decode cX6_dollIs 1 = .ok (.getfield 9, 3) := by decide +kernel
theorem dX6_dollIs_4 : decode cX6_dollIs 4 = .ok (.iload_n 1, 1) := by decide +kernel
theorem dX6_dollIs_5 : decode cX6_dollIs 5 = .ok (.iload_n 2, 1) := by decide +kernel
theorem dX6_dollIs_6 : decode cX6_dollIs 6 = .ok (.invokestatic 79, 3) := by decide +kernel
theorem dX6_dollIs_9 : decode cX6_dollIs 9 = .ok (.iaload, 1) := by decide +kernel
theorem dX6_dollIs_10 : decode cX6_dollIs 10 = .ok (.ireturn, 1) := by decide +kernel
theorem dX6_comes_0 : decode cX6_comes 0 = .ok (.aload_n 0, 1) := by decide +kernel
theorem dX6_comes_1 : decode cX6_comes 1 = .ok (.getfield 9, 3) := by decide +kernel
theorem dX6_comes_4 : decode cX6_comes 4 = .ok (.iconst 0, 1) := by decide +kernel
theorem dX6_comes_5 : decode cX6_comes 5 = .ok (.iaload, 1) := by decide +kernel
theorem dX6_comes_6 : decode cX6_comes 6 = .ok (.istore_n 3, 1) := by decide +kernel
theorem dX6_comes_7 : decode cX6_comes 7 = .ok (.aload_n 0, 1) := by decide +kernel
theorem dX6_comes_8 : decode cX6_comes 8 = .ok (.getfield 9, 3) := by decide +kernel
theorem dX6_comes_11 : decode cX6_comes 11 = .ok (.iload_n 3, 1) := by decide +kernel
theorem dX6_comes_12 : decode cX6_comes 12 = .ok (.iconst 0, 1) := by decide +kernel
theorem dX6_comes_13 : decode cX6_comes 13 = .ok (.invokestatic 79, 3) := by decide +kernel
theorem dX6_comes_16 : decode cX6_comes 16 = .ok (.iload_n 1, 1) := by decide +kernel
theorem dX6_comes_17 : decode cX6_comes 17 = .ok (.iastore, 1) := by decide +kernel
theorem dX6_comes_18 : decode cX6_comes 18 = .ok (.aload_n 0, 1) := by decide +kernel
theorem dX6_comes_19 : decode cX6_comes 19 = .ok (.getfield 9, 3) := by decide +kernel
theorem dX6_comes_22 : decode cX6_comes 22 = .ok (.iload_n 3, 1) := by decide +kernel
theorem dX6_comes_23 : decode cX6_comes 23 = .ok (.iconst 1, 1) := by decide +kernel
theorem dX6_comes_24 : decode cX6_comes 24 = .ok (.invokestatic 79, 3) := by decide +kernel
theorem dX6_comes_27 : decode cX6_comes 27 = .ok (.iload_n 2, 1) := by decide +kernel
theorem dX6_comes_28 : decode cX6_comes 28 = .ok (.iastore, 1) := by decide +kernel
theorem dX6_comes_29 : decode cX6_comes 29 = .ok (.aload_n 0, 1) := by decide +kernel
theorem dX6_comes_30 : decode cX6_comes 30 = .ok (.getfield 9, 3) := by decide +kernel
theorem dX6_comes_33 : decode cX6_comes 33 = .ok (.iload_n 3, 1) := by decide +kernel
theorem dX6_comes_34 : decode cX6_comes 34 = .ok (.iconst 2, 1) := by decide +kernel
theorem dX6_comes_35 : decode cX6_comes 35 = .ok (.invokestatic 79, 3) := by decide +kernel
theorem dX6_comes_38 : decode cX6_comes 38 = .ok (.iload_n 3, 1) := by decide +kernel
theorem dX6_comes_39 : decode cX6_comes 39 = .ok (.iastore, 1) := by decide +kernel
theorem dX6_comes_40 : decode cX6_comes 40 = .ok (.aload_n 0, 1) := by decide +kernel
theorem dX6_comes_41 : decode cX6_comes 41 = .ok (.getfield 9, 3) := by decide +kernel
theorem dX6_comes_44 : decode cX6_comes 44 = .ok (.iconst 0, 1) := by decide +kernel
theorem dX6_comes_45 : decode cX6_comes 45 = .ok (.dup2, 1) := by decide +kernel
theorem dX6_comes_46 : decode cX6_comes 46 = .ok (.iaload, 1) := by decide +kernel
theorem dX6_comes_47 : decode cX6_comes 47 = .ok (.iconst 1, 1) := by decide +kernel
theorem dX6_comes_48 : decode cX6_comes 48 = .ok (.iadd, 1) := by decide +kernel
theorem dX6_comes_49 : decode cX6_comes 49 = .ok (.iastore, 1) := by decide +kernel
theorem dX6_comes_50 : decode cX6_comes 50 = .ok (.iload_n 3, 1) := by decide +kernel
theorem dX6_comes_51 : decode cX6_comes 51 = .ok (.ireturn, 1) := by decide +kernel
theorem dX6_doll_0 : decode cX6_doll 0 = .ok (.iload_n 1, 1) := by decide +kernel
theorem dX6_doll_1 : decode cX6_doll 1 = .ok (.invokestatic 83, 3) := by decide +kernel
theorem dX6_doll_4 : decode cX6_doll 4 = .ok (.ifCond .ne 10, 3) := by decide +kernel
theorem dX6_doll_7 : decode cX6_doll 7 = .ok (.aload_n 0, 1) := by decide +kernel
theorem dX6_doll_8 : decode cX6_doll 8 = .ok (.ldc 70, 2) := by decide +kernel
theorem dX6_doll_10 : decode cX6_doll 10 = .ok (.invokevirtual 87, 3) := by decide +kernel
theorem dX6_doll_13 : decode cX6_doll 13 = .ok (.ireturn, 1) := by decide +kernel
theorem dX6_doll_14 : decode cX6_doll 14 = .ok (.aload_n 0, 1) := by decide +kernel
theorem dX6_doll_15 : decode cX6_doll 15 = .ok (.getfield 9, 3) := by decide +kernel
theorem dX6_doll_18 : decode cX6_doll 18 = .ok (.iconst 0, 1) := by decide +kernel
theorem dX6_doll_19 : decode cX6_doll 19 = .ok (.iaload, 1) := by decide +kernel
theorem dX6_doll_20 : decode cX6_doll 20 = .ok (.bipush 8, 2) := by decide +kernel
theorem dX6_doll_22 : decode cX6_doll 22 = .ok (.if_icmp .ne 12, 3) := by decide +kernel
theorem dX6_doll_25 : decode cX6_doll 25 = .ok (.aload_n 0, 1) := by decide +kernel
theorem dX6_doll_26 : decode cX6_doll 26 = .ok (.ldc 91, 2) := by decide +kernel
theorem dX6_doll_28 : decode cX6_doll 28 = .ok (.invokevirtual 87, 3) := by decide +kernel
theorem dX6_doll_31 : decode cX6_doll 31 = .ok (.goto 9, 3) := by decide +kernel
theorem dX6_doll_34 : decode cX6_doll 34 = .ok (.aload_n 0, 1) := by decide +kernel
theorem dX6_doll_35 : decode cX6_doll 35 = .ok (.iload_n 1, 1) := by decide +kernel
theorem dX6_doll_36 : decode cX6_doll 36 = .ok (.iconst 3, 1) := by decide +kernel
theorem dX6_doll_37 : decode cX6_doll 37 = .ok (.invokevirtual 92, 3) := by decide +kernel
theorem dX6_doll_40 : decode cX6_doll 40 = .ok (.ireturn, 1) := by decide +kernel
theorem dX6_above_0 : decode cX6_above 0 = .ok (.iload_n 0, 1) := by decide +kernel
theorem dX6_above_1 : decode cX6_above 1 = .ok (.ifCond .ne 7, 3) := by decide +kernel
theorem dX6_above_4 : decode cX6_above 4 = .ok (.iconst (-1), 1) := by decide +kernel
theorem dX6_above_5 : decode cX6_above 5 = .ok (.goto 32, 3) := by decide +kernel
theorem dX6_above_8 : decode cX6_above 8 = .ok (.iload_n 0, 1) := by decide +kernel
theorem dX6_above_9 : decode cX6_above 9 = .ok (.iconst 2, 1) := by decide +kernel
theorem dX6_above_10 : decode cX6_above 10 = .ok (.if_icmp .ne 7, 3) := by decide +kernel
theorem dX6_above_13 : decode cX6_above 13 = .ok (.iconst 1, 1) := by decide +kernel
theorem dX6_above_14 : decode cX6_above 14 = .ok (.goto 23, 3) := by decide +kernel
theorem dX6_above_17 : decode cX6_above 17 = .ok (.iload_n 0, 1) := by decide +kernel
theorem dX6_above_18 : decode cX6_above 18 = .ok (.iconst 4, 1) := by decide +kernel
theorem dX6_above_19 : decode cX6_above 19 = .ok (.if_icmp .ne 7, 3) := by decide +kernel
theorem dX6_above_22 : decode cX6_above 22 = .ok (.iconst 3, 1) := by decide +kernel
theorem dX6_above_23 : decode cX6_above 23 = .ok (.goto 14, 3) := by decide +kernel
theorem dX6_above_26 : decode cX6_above 26 = .ok (.iload_n 0, 1) := by decide +kernel
theorem dX6_above_27 : decode cX6_above 27 = .ok (.bipush 6, 2) := by decide +kernel
theorem dX6_above_29 : decode cX6_above 29 = .ok (.if_icmp .ne 7, 3) := by decide +kernel
theorem dX6_above_32 : decode cX6_above 32 = .ok (.iconst 2, 1) := by decide +kernel
theorem dX6_above_33 : decode cX6_above 33 = .ok (.goto 4, 3) := by decide +kernel
theorem dX6_above_36 : decode cX6_above 36 = .ok (.iconst 0, 1) := by decide +kernel
theorem dX6_above_37 : decode cX6_above 37 = .ok (.ireturn, 1) := by decide +kernel
theorem dX6_isUnder_0 : decode cX6_isUnder 0 = .ok (.iload_n 0, 1) := by decide +kernel
theorem dX6_isUnder_1 : decode cX6_isUnder 1 = .ok (.istore_n 2, 1) := by decide +kernel
theorem dX6_isUnder_2 : decode cX6_isUnder 2 = .ok (.iload_n 2, 1) := by decide +kernel
theorem dX6_isUnder_3 : decode cX6_isUnder 3 = .ok (.ifCond .lt 16, 3) := by decide +kernel
theorem dX6_isUnder_6 : decode cX6_isUnder 6 = .ok (.iload_n 2, 1) := by decide +kernel
theorem dX6_isUnder_7 : decode cX6_isUnder 7 = .ok (.iload_n 1, 1) := by decide +kernel
theorem dX6_isUnder_8 : decode cX6_isUnder 8 = .ok (.if_icmp .eq 11, 3) := by decide +kernel
theorem dX6_isUnder_11 : decode cX6_isUnder 11 = .ok (.iload_n 2, 1) := by decide +kernel
theorem dX6_isUnder_12 : decode cX6_isUnder 12 = .ok (.invokestatic 95, 3) := by decide +kernel
theorem dX6_isUnder_15 : decode cX6_isUnder 15 = .ok (.istore_n 2, 1) := by decide +kernel
theorem dX6_isUnder_16 : decode cX6_isUnder 16 = .ok (.goto (-14), 3) := by decide +kernel
theorem dX6_isUnder_19 : decode cX6_isUnder 19 = .ok (.iload_n 2, 1) := by decide +kernel
theorem dX6_isUnder_20 : decode cX6_isUnder 20 = .ok (.ifCond .lt 7, 3) := by decide +kernel
theorem dX6_isUnder_23 : decode cX6_isUnder 23 = .ok (.iconst 1, 1) := by decide +kernel
theorem dX6_isUnder_24 : decode cX6_isUnder 24 = .ok (.goto 4, 3) := by decide +kernel
theorem dX6_isUnder_27 : decode cX6_isUnder 27 = .ok (.iconst 0, 1) := by decide +kernel
theorem dX6_isUnder_28 : decode cX6_isUnder 28 = .ok (.ireturn, 1) := by decide +kernel
theorem dX6_wants_0 : decode cX6_wants 0 = .ok (.aload_n 0, 1) := by decide +kernel
theorem dX6_wants_1 : decode cX6_wants 1 = .ok (.iload_n 1, 1) := by decide +kernel
theorem dX6_wants_2 : decode cX6_wants 2 = .ok (.iconst 0, 1) := by decide +kernel
theorem dX6_wants_3 : decode cX6_wants 3 = .ok (.invokevirtual 98, 3) := by decide +kernel
theorem dX6_wants_6 : decode cX6_wants 6 = .ok (.istore_n 2, 1) := by decide +kernel
theorem dX6_wants_7 : decode cX6_wants 7 = .ok (.iload_n 2, 1) := by decide +kernel
theorem dX6_wants_8 : decode cX6_wants 8 = .ok (.iconst 1, 1) := by decide +kernel
theorem dX6_wants_9 : decode cX6_wants 9 = .ok (.if_icmp .ne 7, 3) := by decide +kernel
theorem dX6_wants_12 : decode cX6_wants 12 = .ok (.iconst 2, 1) := by decide +kernel
theorem dX6_wants_13 : decode cX6_wants 13 = .ok (.goto 16, 3) := by decide +kernel
theorem dX6_wants_16 : decode cX6_wants 16 = .ok (.iload_n 2, 1) := by decide +kernel
theorem dX6_wants_17 : decode cX6_wants 17 = .ok (.iconst 3, 1) := by decide +kernel
theorem dX6_wants_18 : decode cX6_wants 18 = .ok (.invokestatic 101, 3) := by decide +kernel
theorem dX6_wants_21 : decode cX6_wants 21 = .ok (.ifCond .eq 7, 3) := by decide +kernel
theorem dX6_wants_24 : decode cX6_wants 24 = .ok (.iconst 1, 1) := by decide +kernel
theorem dX6_wants_25 : decode cX6_wants 25 = .ok (.goto 4, 3) := by decide +kernel
theorem dX6_wants_28 : decode cX6_wants 28 = .ok (.iconst 0, 1) := by decide +kernel
theorem dX6_wants_29 : decode cX6_wants 29 = .ok (.ireturn, 1) := by decide +kernel
theorem dX6_takesOn_0 : decode cX6_takesOn 0 = .ok (.aload_n 0, 1) := by decide +kernel
theorem dX6_takesOn_1 : decode cX6_takesOn 1 = .ok (.iload_n 1, 1) := by decide +kernel
theorem dX6_takesOn_2 : decode cX6_takesOn 2 = .ok (.iconst 1, 1) := by decide +kernel
theorem dX6_takesOn_3 : decode cX6_takesOn 3 = .ok (.invokevirtual 98, 3) := by decide +kernel
theorem dX6_takesOn_6 : decode cX6_takesOn 6 = .ok (.istore_n 2, 1) := by decide +kernel
theorem dX6_takesOn_7 : decode cX6_takesOn 7 = .ok (.aload_n 0, 1) := by decide +kernel
theorem dX6_takesOn_8 : decode cX6_takesOn 8 = .ok (.iload_n 1, 1) := by decide +kernel
theorem dX6_takesOn_9 : decode cX6_takesOn 9 = .ok (.iconst 0, 1) := by decide +kernel
theorem dX6_takesOn_10 : decode cX6_takesOn 10 = .ok (.invokevirtual 98, 3) := by decide +kernel
theorem dX6_takesOn_13 : decode cX6_takesOn 13 = .ok (.tableswitch 64 1 6 #[39, 41, 43, 47, 53, 61], 39) := by decide +kernel
theorem dX6_takesOn_52 : decode cX6_takesOn 52 = .ok (.iconst 1, 1) := by decide +kernel
theorem dX6_takesOn_53 : decode cX6_takesOn 53 = .ok (.ireturn, 1) := by decide +kernel
theorem dX6_takesOn_54 : decode cX6_takesOn 54 = .ok (.iconst 3, 1) := by decide +kernel
theorem dX6_takesOn_55 : decode cX6_takesOn 55 = .ok (.ireturn, 1) := by decide +kernel
theorem dX6_takesOn_56 : decode cX6_takesOn 56 = .ok (.iconst 2, 1) := by decide +kernel
theorem dX6_takesOn_57 : decode cX6_takesOn 57 = .ok (.iload_n 2, 1) := by decide +kernel
theorem dX6_takesOn_58 : decode cX6_takesOn 58 = .ok (.imul, 1) := by decide +kernel
theorem dX6_takesOn_59 : decode cX6_takesOn 59 = .ok (.ireturn, 1) := by decide +kernel
theorem dX6_takesOn_60 : decode cX6_takesOn 60 = .ok (.iconst 2, 1) := by decide +kernel
theorem dX6_takesOn_61 : decode cX6_takesOn 61 = .ok (.iload_n 2, 1) := by decide +kernel
theorem dX6_takesOn_62 : decode cX6_takesOn 62 = .ok (.imul, 1) := by decide +kernel
theorem dX6_takesOn_63 : decode cX6_takesOn 63 = .ok (.iconst 3, 1) := by decide +kernel
theorem dX6_takesOn_64 : decode cX6_takesOn 64 = .ok (.iadd, 1) := by decide +kernel
theorem dX6_takesOn_65 : decode cX6_takesOn 65 = .ok (.ireturn, 1) := by decide +kernel
theorem dX6_takesOn_66 : decode cX6_takesOn 66 = .ok (.iconst 1, 1) := by decide +kernel
theorem dX6_takesOn_67 : decode cX6_takesOn 67 = .ok (.iload_n 2, 1) := by decide +kernel
theorem dX6_takesOn_68 : decode cX6_takesOn 68 = .ok (.iconst 2, 1) := by decide +kernel
theorem dX6_takesOn_69 : decode cX6_takesOn 69 = .ok (.idiv, 1) := by decide +kernel
theorem dX6_takesOn_70 : decode cX6_takesOn 70 = .ok (.invokestatic 105, 3) := by decide +kernel
theorem dX6_takesOn_73 : decode cX6_takesOn 73 = .ok (.ireturn, 1) := by decide +kernel
theorem dX6_takesOn_74 : decode cX6_takesOn 74 = .ok (.bipush 6, 2) := by decide +kernel
theorem dX6_takesOn_76 : decode cX6_takesOn 76 = .ok (.ireturn, 1) := by decide +kernel
theorem dX6_takesOn_77 : decode cX6_takesOn 77 = .ok (.iload_n 2, 1) := by decide +kernel
theorem dX6_takesOn_78 : decode cX6_takesOn 78 = .ok (.ireturn, 1) := by decide +kernel
theorem dX6_voice_0 : decode cX6_voice 0 = .ok (.aload_n 0, 1) := by decide +kernel
theorem dX6_voice_1 : decode cX6_voice 1 = .ok (.iload_n 1, 1) := by decide +kernel
theorem dX6_voice_2 : decode cX6_voice 2 = .ok (.iconst 0, 1) := by decide +kernel
theorem dX6_voice_3 : decode cX6_voice 3 = .ok (.invokevirtual 98, 3) := by decide +kernel
theorem dX6_voice_6 : decode cX6_voice 6 = .ok (.iconst 1, 1) := by decide +kernel
theorem dX6_voice_7 : decode cX6_voice 7 = .ok (.if_icmp .ne 7, 3) := by decide +kernel
theorem dX6_voice_10 : decode cX6_voice 10 = .ok (.iconst 1, 1) := by decide +kernel
theorem dX6_voice_11 : decode cX6_voice 11 = .ok (.goto 4, 3) := by decide +kernel
theorem dX6_voice_14 : decode cX6_voice 14 = .ok (.iconst 0, 1) := by decide +kernel
theorem dX6_voice_15 : decode cX6_voice 15 = .ok (.ireturn, 1) := by decide +kernel
theorem dX6_of_0 : decode cX6_of 0 = .ok (.aload_n 0, 1) := by decide +kernel
theorem dX6_of_1 : decode cX6_of 1 = .ok (.iload_n 1, 1) := by decide +kernel
theorem dX6_of_2 : decode cX6_of 2 = .ok (.invokevirtual 110, 3) := by decide +kernel
theorem dX6_of_5 : decode cX6_of 5 = .ok (.ifCond .eq 12, 3) := by decide +kernel
theorem dX6_of_8 : decode cX6_of 8 = .ok (.iload_n 2, 1) := by decide +kernel
theorem dX6_of_9 : decode cX6_of 9 = .ok (.iconst 0, 1) := by decide +kernel
theorem dX6_of_10 : decode cX6_of 10 = .ok (.iconst 5, 1) := by decide +kernel
theorem dX6_of_11 : decode cX6_of 11 = .ok (.invokestatic 75, 3) := by decide +kernel
theorem dX6_of_14 : decode cX6_of 14 = .ok (.ifCond .ne 10, 3) := by decide +kernel
theorem dX6_of_17 : decode cX6_of 17 = .ok (.aload_n 0, 1) := by decide +kernel
theorem dX6_of_18 : decode cX6_of 18 = .ok (.ldc 70, 2) := by decide +kernel
theorem dX6_of_20 : decode cX6_of 20 = .ok (.invokevirtual 87, 3) := by decide +kernel
theorem dX6_of_23 : decode cX6_of 23 = .ok (.ireturn, 1) := by decide +kernel
theorem dX6_of_24 : decode cX6_of 24 = .ok (.iload_n 2, 1) := by decide +kernel
theorem dX6_of_25 : decode cX6_of 25 = .ok (.tableswitch 67 0 4 #[35, 42, 49, 55, 61], 35) := by decide +kernel
theorem dX6_of_60 : decode cX6_of 60 = .ok (.aload_n 0, 1) := by decide +kernel
theorem dX6_of_61 : decode cX6_of 61 = .ok (.iload_n 1, 1) := by decide +kernel
theorem dX6_of_62 : decode cX6_of 62 = .ok (.iconst 0, 1) := by decide +kernel
theorem dX6_of_63 : decode cX6_of 63 = .ok (.invokevirtual 98, 3) := by decide +kernel
theorem dX6_of_66 : decode cX6_of 66 = .ok (.ireturn, 1) := by decide +kernel
theorem dX6_of_67 : decode cX6_of 67 = .ok (.aload_n 0, 1) := by decide +kernel
theorem dX6_of_68 : decode cX6_of 68 = .ok (.iload_n 1, 1) := by decide +kernel
theorem dX6_of_69 : decode cX6_of 69 = .ok (.iconst 1, 1) := by decide +kernel
theorem dX6_of_70 : decode cX6_of 70 = .ok (.invokevirtual 98, 3) := by decide +kernel
theorem dX6_of_73 : decode cX6_of 73 = .ok (.ireturn, 1) := by decide +kernel
theorem dX6_of_74 : decode cX6_of 74 = .ok (.aload_n 0, 1) := by decide +kernel
theorem dX6_of_75 : decode cX6_of 75 = .ok (.iload_n 1, 1) := by decide +kernel
theorem dX6_of_76 : decode cX6_of 76 = .ok (.invokevirtual 113, 3) := by decide +kernel
theorem dX6_of_79 : decode cX6_of 79 = .ok (.ireturn, 1) := by decide +kernel
theorem dX6_of_80 : decode cX6_of 80 = .ok (.aload_n 0, 1) := by decide +kernel
theorem dX6_of_81 : decode cX6_of 81 = .ok (.iload_n 1, 1) := by decide +kernel
theorem dX6_of_82 : decode cX6_of 82 = .ok (.invokevirtual 116, 3) := by decide +kernel
theorem dX6_of_85 : decode cX6_of 85 = .ok (.ireturn, 1) := by decide +kernel
theorem dX6_of_86 : decode cX6_of 86 = .ok (.aload_n 0, 1) := by decide +kernel
theorem dX6_of_87 : decode cX6_of 87 = .ok (.iload_n 1, 1) := by decide +kernel
theorem dX6_of_88 : decode cX6_of 88 = .ok (.invokevirtual 119, 3) := by decide +kernel
theorem dX6_of_91 : decode cX6_of 91 = .ok (.ireturn, 1) := by decide +kernel
theorem dX6_of_92 : decode cX6_of 92 = .ok (.aload_n 0, 1) := by decide +kernel
theorem dX6_of_93 : decode cX6_of 93 = .ok (.iload_n 1, 1) := by decide +kernel
theorem dX6_of_94 : decode cX6_of 94 = .ok (.iconst 2, 1) := by decide +kernel
theorem dX6_of_95 : decode cX6_of 95 = .ok (.invokevirtual 98, 3) := by decide +kernel
theorem dX6_of_98 : decode cX6_of 98 = .ok (.ireturn, 1) := by decide +kernel
theorem dX6_change_0 : decode cX6_change 0 = .ok (.iload_n 2, 1) := by decide +kernel
theorem dX6_change_1 : decode cX6_change 1 = .ok (.ifCond .ne 10, 3) := by decide +kernel
theorem dX6_change_4 : decode cX6_change 4 = .ok (.iload_n 3, 1) := by decide +kernel
theorem dX6_change_5 : decode cX6_change 5 = .ok (.invokestatic 83, 3) := by decide +kernel
theorem dX6_change_8 : decode cX6_change 8 = .ok (.ifCond .ne 18, 3) := by decide +kernel
theorem dX6_change_11 : decode cX6_change 11 = .ok (.iload_n 2, 1) := by decide +kernel
theorem dX6_change_12 : decode cX6_change 12 = .ok (.iconst 1, 1) := by decide +kernel
theorem dX6_change_13 : decode cX6_change 13 = .ok (.if_icmp .ne 17, 3) := by decide +kernel
theorem dX6_change_16 : decode cX6_change 16 = .ok (.iload_n 3, 1) := by decide +kernel
theorem dX6_change_17 : decode cX6_change 17 = .ok (.iconst 1, 1) := by decide +kernel
theorem dX6_change_18 : decode cX6_change 18 = .ok (.bipush 9, 2) := by decide +kernel
theorem dX6_change_20 : decode cX6_change 20 = .ok (.invokestatic 75, 3) := by decide +kernel
theorem dX6_change_23 : decode cX6_change 23 = .ok (.ifCond .eq 7, 3) := by decide +kernel
theorem dX6_change_26 : decode cX6_change 26 = .ok (.iconst 1, 1) := by decide +kernel
theorem dX6_change_27 : decode cX6_change 27 = .ok (.goto 4, 3) := by decide +kernel
theorem dX6_change_30 : decode cX6_change 30 = .ok (.iconst 0, 1) := by decide +kernel
theorem dX6_change_31 : decode cX6_change 31 = .ok (.istore 4, 2) := by decide +kernel
theorem dX6_change_33 : decode cX6_change 33 = .ok (.aload_n 0, 1) := by decide +kernel
theorem dX6_change_34 : decode cX6_change 34 = .ok (.iload_n 1, 1) := by decide +kernel
theorem dX6_change_35 : decode cX6_change 35 = .ok (.invokevirtual 110, 3) := by decide +kernel
theorem dX6_change_38 : decode cX6_change 38 = .ok (.ifCond .eq 21, 3) := by decide +kernel
theorem dX6_change_41 : decode cX6_change 41 = .ok (.iload 4, 2) := by decide +kernel
theorem dX6_change_43 : decode cX6_change 43 = .ok (.ifCond .eq 16, 3) := by decide +kernel
theorem dX6_change_46 : decode cX6_change 46 = .ok (.aload_n 0, 1) := by decide +kernel
theorem dX6_change_47 : decode cX6_change 47 = .ok (.iload_n 1, 1) := by decide +kernel
theorem dX6_change_48 : decode cX6_change 48 = .ok (.iload_n 2, 1) := by decide +kernel
theorem dX6_change_49 : decode cX6_change 49 = .ok (.invokestatic 79, 3) := by decide +kernel
theorem dX6_change_52 : decode cX6_change 52 = .ok (.iload_n 3, 1) := by decide +kernel
theorem dX6_change_53 : decode cX6_change 53 = .ok (.invokevirtual 122, 3) := by decide +kernel
theorem dX6_change_56 : decode cX6_change 56 = .ok (.goto 9, 3) := by decide +kernel
theorem dX6_change_59 : decode cX6_change 59 = .ok (.aload_n 0, 1) := by decide +kernel
theorem dX6_change_60 : decode cX6_change 60 = .ok (.ldc 70, 2) := by decide +kernel
theorem dX6_change_62 : decode cX6_change 62 = .ok (.invokevirtual 87, 3) := by decide +kernel
theorem dX6_change_65 : decode cX6_change 65 = .ok (.ireturn, 1) := by decide +kernel
theorem dX6_swapsHooks_0 : decode cX6_swapsHooks 0 = .ok (.aload_n 0, 1) := by decide +kernel
theorem dX6_swapsHooks_1 : decode cX6_swapsHooks 1 = .ok (.iload_n 1, 1) := by decide +kernel
theorem dX6_swapsHooks_2 : decode cX6_swapsHooks 2 = .ok (.iconst 2, 1) := by decide +kernel
theorem dX6_swapsHooks_3 : decode cX6_swapsHooks 3 = .ok (.invokestatic 79, 3) := by decide +kernel
theorem dX6_swapsHooks_6 : decode cX6_swapsHooks 6 = .ok (.aload_n 0, 1) := by decide +kernel
theorem dX6_swapsHooks_7 : decode cX6_swapsHooks 7 = .ok (.iload_n 2, 1) := by decide +kernel
theorem dX6_swapsHooks_8 : decode cX6_swapsHooks 8 = .ok (.iconst 2, 1) := by decide +kernel
theorem dX6_swapsHooks_9 : decode cX6_swapsHooks 9 = .ok (.invokevirtual 98, 3) := by decide +kernel
theorem dX6_swapsHooks_12 : decode cX6_swapsHooks 12 = .ok (.invokevirtual 122, 3) := by decide +kernel
theorem dX6_swapsHooks_15 : decode cX6_swapsHooks 15 = .ok (.istore_n 3, 1) := by decide +kernel
theorem dX6_swapsHooks_16 : decode cX6_swapsHooks 16 = .ok (.aload_n 0, 1) := by decide +kernel
theorem dX6_swapsHooks_17 : decode cX6_swapsHooks 17 = .ok (.getfield 9, 3) := by decide +kernel
theorem dX6_swapsHooks_20 : decode cX6_swapsHooks 20 = .ok (.iload_n 2, 1) := by decide +kernel
theorem dX6_swapsHooks_21 : decode cX6_swapsHooks 21 = .ok (.iconst 2, 1) := by decide +kernel
theorem dX6_swapsHooks_22 : decode cX6_swapsHooks 22 = .ok (.invokestatic 79, 3) := by decide +kernel
theorem dX6_swapsHooks_25 : decode cX6_swapsHooks 25 = .ok (.iload_n 3, 1) := by decide +kernel
theorem dX6_swapsHooks_26 : decode cX6_swapsHooks 26 = .ok (.iastore, 1) := by decide +kernel
theorem dX6_swapsHooks_27 : decode cX6_swapsHooks 27 = .ok (.aload_n 0, 1) := by decide +kernel
theorem dX6_swapsHooks_28 : decode cX6_swapsHooks 28 = .ok (.iload_n 1, 1) := by decide +kernel
theorem dX6_swapsHooks_29 : decode cX6_swapsHooks 29 = .ok (.iconst 2, 1) := by decide +kernel
theorem dX6_swapsHooks_30 : decode cX6_swapsHooks 30 = .ok (.invokevirtual 98, 3) := by decide +kernel
theorem dX6_swapsHooks_33 : decode cX6_swapsHooks 33 = .ok (.ireturn, 1) := by decide +kernel
theorem dX6_hooks_0 : decode cX6_hooks 0 = .ok (.aload_n 0, 1) := by decide +kernel
theorem dX6_hooks_1 : decode cX6_hooks 1 = .ok (.iload_n 1, 1) := by decide +kernel
theorem dX6_hooks_2 : decode cX6_hooks 2 = .ok (.invokevirtual 110, 3) := by decide +kernel
theorem dX6_hooks_5 : decode cX6_hooks 5 = .ok (.ifCond .eq 25, 3) := by decide +kernel
theorem dX6_hooks_8 : decode cX6_hooks 8 = .ok (.aload_n 0, 1) := by decide +kernel
theorem dX6_hooks_9 : decode cX6_hooks 9 = .ok (.iload_n 2, 1) := by decide +kernel
theorem dX6_hooks_10 : decode cX6_hooks 10 = .ok (.invokevirtual 110, 3) := by decide +kernel
theorem dX6_hooks_13 : decode cX6_hooks 13 = .ok (.ifCond .eq 17, 3) := by decide +kernel
theorem dX6_hooks_16 : decode cX6_hooks 16 = .ok (.iload_n 1, 1) := by decide +kernel
theorem dX6_hooks_17 : decode cX6_hooks 17 = .ok (.iload_n 2, 1) := by decide +kernel
theorem dX6_hooks_18 : decode cX6_hooks 18 = .ok (.if_icmp .eq 12, 3) := by decide +kernel
theorem dX6_hooks_21 : decode cX6_hooks 21 = .ok (.aload_n 0, 1) := by decide +kernel
theorem dX6_hooks_22 : decode cX6_hooks 22 = .ok (.iload_n 1, 1) := by decide +kernel
theorem dX6_hooks_23 : decode cX6_hooks 23 = .ok (.iload_n 2, 1) := by decide +kernel
theorem dX6_hooks_24 : decode cX6_hooks 24 = .ok (.invokevirtual 125, 3) := by decide +kernel
theorem dX6_hooks_27 : decode cX6_hooks 27 = .ok (.goto 9, 3) := by decide +kernel
theorem dX6_hooks_30 : decode cX6_hooks 30 = .ok (.aload_n 0, 1) := by decide +kernel
theorem dX6_hooks_31 : decode cX6_hooks 31 = .ok (.ldc 70, 2) := by decide +kernel
theorem dX6_hooks_33 : decode cX6_hooks 33 = .ok (.invokevirtual 87, 3) := by decide +kernel
theorem dX6_hooks_36 : decode cX6_hooks 36 = .ok (.ireturn, 1) := by decide +kernel
theorem dX6_leaves_0 : decode cX6_leaves 0 = .ok (.iload_n 1, 1) := by decide +kernel
theorem dX6_leaves_1 : decode cX6_leaves 1 = .ok (.iconst 0, 1) := by decide +kernel
theorem dX6_leaves_2 : decode cX6_leaves 2 = .ok (.bipush 10, 2) := by decide +kernel
theorem dX6_leaves_4 : decode cX6_leaves 4 = .ok (.invokestatic 75, 3) := by decide +kernel
theorem dX6_leaves_7 : decode cX6_leaves 7 = .ok (.ifCond .eq 13, 3) := by decide +kernel
theorem dX6_leaves_10 : decode cX6_leaves 10 = .ok (.aload_n 0, 1) := by decide +kernel
theorem dX6_leaves_11 : decode cX6_leaves 11 = .ok (.bipush 8, 2) := by decide +kernel
theorem dX6_leaves_13 : decode cX6_leaves 13 = .ok (.iload_n 1, 1) := by decide +kernel
theorem dX6_leaves_14 : decode cX6_leaves 14 = .ok (.invokevirtual 122, 3) := by decide +kernel
theorem dX6_leaves_17 : decode cX6_leaves 17 = .ok (.goto 9, 3) := by decide +kernel
theorem dX6_leaves_20 : decode cX6_leaves 20 = .ok (.aload_n 0, 1) := by decide +kernel
theorem dX6_leaves_21 : decode cX6_leaves 21 = .ok (.ldc 70, 2) := by decide +kernel
theorem dX6_leaves_23 : decode cX6_leaves 23 = .ok (.invokevirtual 87, 3) := by decide +kernel
theorem dX6_leaves_26 : decode cX6_leaves 26 = .ok (.ireturn, 1) := by decide +kernel
theorem dX6_comesBeat_0 : decode cX6_comesBeat 0 = .ok (.aload_n 0, 1) := by decide +kernel
theorem dX6_comesBeat_1 : decode cX6_comesBeat 1 = .ok (.getfield 9, 3) := by decide +kernel
theorem dX6_comesBeat_4 : decode cX6_comesBeat 4 = .ok (.iconst 1, 1) := by decide +kernel
theorem dX6_comesBeat_5 : decode cX6_comesBeat 5 = .ok (.iaload, 1) := by decide +kernel
theorem dX6_comesBeat_6 : decode cX6_comesBeat 6 = .ok (.istore_n 3, 1) := by decide +kernel
theorem dX6_comesBeat_7 : decode cX6_comesBeat 7 = .ok (.aload_n 0, 1) := by decide +kernel
theorem dX6_comesBeat_8 : decode cX6_comesBeat 8 = .ok (.getfield 9, 3) := by decide +kernel
theorem dX6_comesBeat_11 : decode cX6_comesBeat 11 = .ok (.bipush 44, 2) := by decide +kernel
theorem dX6_comesBeat_13 : decode cX6_comesBeat 13 = .ok (.iload_n 3, 1) := by decide +kernel
theorem dX6_comesBeat_14 : decode cX6_comesBeat 14 = .ok (.iadd, 1) := by decide +kernel
theorem dX6_comesBeat_15 : decode cX6_comesBeat 15 = .ok (.iload_n 1, 1) := by decide +kernel
theorem dX6_comesBeat_16 : decode cX6_comesBeat 16 = .ok (.iastore, 1) := by decide +kernel
theorem dX6_comesBeat_17 : decode cX6_comesBeat 17 = .ok (.aload_n 0, 1) := by decide +kernel
theorem dX6_comesBeat_18 : decode cX6_comesBeat 18 = .ok (.getfield 9, 3) := by decide +kernel
theorem dX6_comesBeat_21 : decode cX6_comesBeat 21 = .ok (.bipush 56, 2) := by decide +kernel
theorem dX6_comesBeat_23 : decode cX6_comesBeat 23 = .ok (.iload_n 3, 1) := by decide +kernel
theorem dX6_comesBeat_24 : decode cX6_comesBeat 24 = .ok (.iadd, 1) := by decide +kernel
theorem dX6_comesBeat_25 : decode cX6_comesBeat 25 = .ok (.iload_n 2, 1) := by decide +kernel
theorem dX6_comesBeat_26 : decode cX6_comesBeat 26 = .ok (.iastore, 1) := by decide +kernel
theorem dX6_comesBeat_27 : decode cX6_comesBeat 27 = .ok (.aload_n 0, 1) := by decide +kernel
theorem dX6_comesBeat_28 : decode cX6_comesBeat 28 = .ok (.getfield 9, 3) := by decide +kernel
theorem dX6_comesBeat_31 : decode cX6_comesBeat 31 = .ok (.iconst 1, 1) := by decide +kernel
theorem dX6_comesBeat_32 : decode cX6_comesBeat 32 = .ok (.dup2, 1) := by decide +kernel
theorem dX6_comesBeat_33 : decode cX6_comesBeat 33 = .ok (.iaload, 1) := by decide +kernel
theorem dX6_comesBeat_34 : decode cX6_comesBeat 34 = .ok (.iconst 1, 1) := by decide +kernel
theorem dX6_comesBeat_35 : decode cX6_comesBeat 35 = .ok (.iadd, 1) := by decide +kernel
theorem dX6_comesBeat_36 : decode cX6_comesBeat 36 = .ok (.iastore, 1) := by decide +kernel
theorem dX6_comesBeat_37 : decode cX6_comesBeat 37 = .ok (.iload_n 3, 1) := by decide +kernel
theorem dX6_comesBeat_38 : decode cX6_comesBeat 38 = .ok (.ireturn, 1) := by decide +kernel
theorem dX6_maySpeak_0 : decode cX6_maySpeak 0 = .ok (.iload_n 1, 1) := by decide +kernel
theorem dX6_maySpeak_1 : decode cX6_maySpeak 1 = .ok (.iconst (-1), 1) := by decide +kernel
theorem dX6_maySpeak_2 : decode cX6_maySpeak 2 = .ok (.if_icmp .eq 11, 3) := by decide +kernel
theorem dX6_maySpeak_5 : decode cX6_maySpeak 5 = .ok (.aload_n 0, 1) := by decide +kernel
theorem dX6_maySpeak_6 : decode cX6_maySpeak 6 = .ok (.iload_n 1, 1) := by decide +kernel
theorem dX6_maySpeak_7 : decode cX6_maySpeak 7 = .ok (.invokevirtual 110, 3) := by decide +kernel
theorem dX6_maySpeak_10 : decode cX6_maySpeak 10 = .ok (.ifCond .eq 7, 3) := by decide +kernel
theorem dX6_maySpeak_13 : decode cX6_maySpeak 13 = .ok (.iconst 1, 1) := by decide +kernel
theorem dX6_maySpeak_14 : decode cX6_maySpeak 14 = .ok (.goto 4, 3) := by decide +kernel
theorem dX6_maySpeak_17 : decode cX6_maySpeak 17 = .ok (.iconst 0, 1) := by decide +kernel
theorem dX6_maySpeak_18 : decode cX6_maySpeak 18 = .ok (.ireturn, 1) := by decide +kernel
theorem dX6_beat_0 : decode cX6_beat 0 = .ok (.aload_n 0, 1) := by decide +kernel
theorem dX6_beat_1 : decode cX6_beat 1 = .ok (.iload_n 1, 1) := by decide +kernel
theorem dX6_beat_2 : decode cX6_beat 2 = .ok (.invokevirtual 128, 3) := by decide +kernel
theorem dX6_beat_5 : decode cX6_beat 5 = .ok (.ifCond .eq 11, 3) := by decide +kernel
theorem dX6_beat_8 : decode cX6_beat 8 = .ok (.aload_n 0, 1) := by decide +kernel
theorem dX6_beat_9 : decode cX6_beat 9 = .ok (.iload_n 2, 1) := by decide +kernel
theorem dX6_beat_10 : decode cX6_beat 10 = .ok (.invokevirtual 131, 3) := by decide +kernel
theorem dX6_beat_13 : decode cX6_beat 13 = .ok (.ifCond .ne 10, 3) := by decide +kernel
theorem dX6_beat_16 : decode cX6_beat 16 = .ok (.aload_n 0, 1) := by decide +kernel
theorem dX6_beat_17 : decode cX6_beat 17 = .ok (.ldc 70, 2) := by decide +kernel
theorem dX6_beat_19 : decode cX6_beat 19 = .ok (.invokevirtual 87, 3) := by decide +kernel
theorem dX6_beat_22 : decode cX6_beat 22 = .ok (.ireturn, 1) := by decide +kernel
theorem dX6_beat_23 : decode cX6_beat 23 = .ok (.aload_n 0, 1) := by decide +kernel
theorem dX6_beat_24 : decode cX6_beat 24 = .ok (.getfield 9, 3) := by decide +kernel
theorem dX6_beat_27 : decode cX6_beat 27 = .ok (.iconst 1, 1) := by decide +kernel
theorem dX6_beat_28 : decode cX6_beat 28 = .ok (.iaload, 1) := by decide +kernel
theorem dX6_beat_29 : decode cX6_beat 29 = .ok (.bipush 12, 2) := by decide +kernel
theorem dX6_beat_31 : decode cX6_beat 31 = .ok (.if_icmp .ne 12, 3) := by decide +kernel
theorem dX6_beat_34 : decode cX6_beat 34 = .ok (.aload_n 0, 1) := by decide +kernel
theorem dX6_beat_35 : decode cX6_beat 35 = .ok (.ldc 91, 2) := by decide +kernel
theorem dX6_beat_37 : decode cX6_beat 37 = .ok (.invokevirtual 87, 3) := by decide +kernel
theorem dX6_beat_40 : decode cX6_beat 40 = .ok (.goto 9, 3) := by decide +kernel
theorem dX6_beat_43 : decode cX6_beat 43 = .ok (.aload_n 0, 1) := by decide +kernel
theorem dX6_beat_44 : decode cX6_beat 44 = .ok (.iload_n 1, 1) := by decide +kernel
theorem dX6_beat_45 : decode cX6_beat 45 = .ok (.iload_n 2, 1) := by decide +kernel
theorem dX6_beat_46 : decode cX6_beat 46 = .ok (.invokevirtual 134, 3) := by decide +kernel
theorem dX6_beat_49 : decode cX6_beat 49 = .ok (.ireturn, 1) := by decide +kernel
theorem dX6_isWrongBeat_0 : decode cX6_isWrongBeat 0 = .ok (.aload_n 0, 1) := by decide +kernel
theorem dX6_isWrongBeat_1 : decode cX6_isWrongBeat 1 = .ok (.getfield 9, 3) := by decide +kernel
theorem dX6_isWrongBeat_4 : decode cX6_isWrongBeat 4 = .ok (.bipush 44, 2) := by decide +kernel
theorem dX6_isWrongBeat_6 : decode cX6_isWrongBeat 6 = .ok (.iload_n 1, 1) := by decide +kernel
theorem dX6_isWrongBeat_7 : decode cX6_isWrongBeat 7 = .ok (.iadd, 1) := by decide +kernel
theorem dX6_isWrongBeat_8 : decode cX6_isWrongBeat 8 = .ok (.iaload, 1) := by decide +kernel
theorem dX6_isWrongBeat_9 : decode cX6_isWrongBeat 9 = .ok (.istore_n 2, 1) := by decide +kernel
theorem dX6_isWrongBeat_10 : decode cX6_isWrongBeat 10 = .ok (.iconst 0, 1) := by decide +kernel
theorem dX6_isWrongBeat_11 : decode cX6_isWrongBeat 11 = .ok (.istore_n 3, 1) := by decide +kernel
theorem dX6_isWrongBeat_12 : decode cX6_isWrongBeat 12 = .ok (.iconst 0, 1) := by decide +kernel
theorem dX6_isWrongBeat_13 : decode cX6_isWrongBeat 13 = .ok (.istore 4, 2) := by decide +kernel
theorem dX6_isWrongBeat_15 : decode cX6_isWrongBeat 15 = .ok (.iconst 0, 1) := by decide +kernel
theorem dX6_isWrongBeat_16 : decode cX6_isWrongBeat 16 = .ok (.istore 5, 2) := by decide +kernel
theorem dX6_isWrongBeat_18 : decode cX6_isWrongBeat 18 = .ok (.iload 5, 2) := by decide +kernel
theorem dX6_isWrongBeat_20 : decode cX6_isWrongBeat 20 = .ok (.aload_n 0, 1) := by decide +kernel
theorem dX6_isWrongBeat_21 : decode cX6_isWrongBeat 21 = .ok (.getfield 9, 3) := by decide +kernel
theorem dX6_isWrongBeat_24 : decode cX6_isWrongBeat 24 = .ok (.iconst 0, 1) := by decide +kernel
theorem dX6_isWrongBeat_25 : decode cX6_isWrongBeat 25 = .ok (.iaload, 1) := by decide +kernel
theorem dX6_isWrongBeat_26 : decode cX6_isWrongBeat 26 = .ok (.if_icmp .ge 65, 3) := by decide +kernel
theorem dX6_isWrongBeat_29 : decode cX6_isWrongBeat 29 = .ok (.iload_n 3, 1) := by decide +kernel
theorem dX6_isWrongBeat_30 : decode cX6_isWrongBeat 30 = .ok (.iload_n 2, 1) := by decide +kernel
theorem dX6_isWrongBeat_31 : decode cX6_isWrongBeat 31 = .ok (.iload 5, 2) := by decide +kernel
theorem dX6_isWrongBeat_33 : decode cX6_isWrongBeat 33 = .ok (.invokestatic 137, 3) := by decide +kernel
theorem dX6_isWrongBeat_36 : decode cX6_isWrongBeat 36 = .ok (.ifCond .eq 17, 3) := by decide +kernel
theorem dX6_isWrongBeat_39 : decode cX6_isWrongBeat 39 = .ok (.aload_n 0, 1) := by decide +kernel
theorem dX6_isWrongBeat_40 : decode cX6_isWrongBeat 40 = .ok (.iload 5, 2) := by decide +kernel
theorem dX6_isWrongBeat_42 : decode cX6_isWrongBeat 42 = .ok (.invokevirtual 113, 3) := by decide +kernel
theorem dX6_isWrongBeat_45 : decode cX6_isWrongBeat 45 = .ok (.iconst 1, 1) := by decide +kernel
theorem dX6_isWrongBeat_46 : decode cX6_isWrongBeat 46 = .ok (.if_icmp .ne 7, 3) := by decide +kernel
theorem dX6_isWrongBeat_49 : decode cX6_isWrongBeat 49 = .ok (.iconst 1, 1) := by decide +kernel
theorem dX6_isWrongBeat_50 : decode cX6_isWrongBeat 50 = .ok (.goto 4, 3) := by decide +kernel
theorem dX6_isWrongBeat_53 : decode cX6_isWrongBeat 53 = .ok (.iconst 0, 1) := by decide +kernel
theorem dX6_isWrongBeat_54 : decode cX6_isWrongBeat 54 = .ok (.iadd, 1) := by decide +kernel
theorem dX6_isWrongBeat_55 : decode cX6_isWrongBeat 55 = .ok (.istore_n 3, 1) := by decide +kernel
theorem dX6_isWrongBeat_56 : decode cX6_isWrongBeat 56 = .ok (.iload 4, 2) := by decide +kernel
theorem dX6_isWrongBeat_58 : decode cX6_isWrongBeat 58 = .ok (.iload_n 2, 1) := by decide +kernel
theorem dX6_isWrongBeat_59 : decode cX6_isWrongBeat 59 = .ok (.iload 5, 2) := by decide +kernel
theorem dX6_isWrongBeat_61 : decode cX6_isWrongBeat 61 = .ok (.invokestatic 137, 3) := by decide +kernel
theorem dX6_isWrongBeat_64 : decode cX6_isWrongBeat 64 = .ok (.ifCond .eq 17, 3) := by decide +kernel
theorem dX6_isWrongBeat_67 : decode cX6_isWrongBeat 67 = .ok (.aload_n 0, 1) := by decide +kernel
theorem dX6_isWrongBeat_68 : decode cX6_isWrongBeat 68 = .ok (.iload 5, 2) := by decide +kernel
theorem dX6_isWrongBeat_70 : decode cX6_isWrongBeat 70 = .ok (.invokevirtual 113, 3) := by decide +kernel
theorem dX6_isWrongBeat_73 : decode cX6_isWrongBeat 73 = .ok (.iconst 2, 1) := by decide +kernel
theorem dX6_isWrongBeat_74 : decode cX6_isWrongBeat 74 = .ok (.if_icmp .ne 7, 3) := by decide +kernel
theorem dX6_isWrongBeat_77 : decode cX6_isWrongBeat 77 = .ok (.iconst 1, 1) := by decide +kernel
theorem dX6_isWrongBeat_78 : decode cX6_isWrongBeat 78 = .ok (.goto 4, 3) := by decide +kernel
theorem dX6_isWrongBeat_81 : decode cX6_isWrongBeat 81 = .ok (.iconst 0, 1) := by decide +kernel
theorem dX6_isWrongBeat_82 : decode cX6_isWrongBeat 82 = .ok (.iadd, 1) := by decide +kernel
theorem dX6_isWrongBeat_83 : decode cX6_isWrongBeat 83 = .ok (.istore 4, 2) := by decide +kernel
theorem dX6_isWrongBeat_85 : decode cX6_isWrongBeat 85 = .ok (.iinc 5 1, 3) := by decide +kernel
theorem dX6_isWrongBeat_88 : decode cX6_isWrongBeat 88 = .ok (.goto (-70), 3) := by decide +kernel
theorem dX6_isWrongBeat_91 : decode cX6_isWrongBeat 91 = .ok (.aload_n 0, 1) := by decide +kernel
theorem dX6_isWrongBeat_92 : decode cX6_isWrongBeat 92 = .ok (.getfield 9, 3) := by decide +kernel
theorem dX6_isWrongBeat_95 : decode cX6_isWrongBeat 95 = .ok (.bipush 56, 2) := by decide +kernel
theorem dX6_isWrongBeat_97 : decode cX6_isWrongBeat 97 = .ok (.iload_n 1, 1) := by decide +kernel
theorem dX6_isWrongBeat_98 : decode cX6_isWrongBeat 98 = .ok (.iadd, 1) := by decide +kernel
theorem dX6_isWrongBeat_99 : decode cX6_isWrongBeat 99 = .ok (.iaload, 1) := by decide +kernel
theorem dX6_isWrongBeat_100 : decode cX6_isWrongBeat 100 = .ok (.istore 5, 2) := by decide +kernel
theorem dX6_isWrongBeat_102 : decode cX6_isWrongBeat 102 = .ok (.iload_n 2, 1) := by decide +kernel
theorem dX6_isWrongBeat_103 : decode cX6_isWrongBeat 103 = .ok (.invokestatic 140, 3) := by decide +kernel
theorem dX6_isWrongBeat_106 : decode cX6_isWrongBeat 106 = .ok (.iconst 2, 1) := by decide +kernel
theorem dX6_isWrongBeat_107 : decode cX6_isWrongBeat 107 = .ok (.if_icmp .gt 28, 3) := by decide +kernel
theorem dX6_isWrongBeat_110 : decode cX6_isWrongBeat 110 = .ok (.iload_n 3, 1) := by decide +kernel
theorem dX6_isWrongBeat_111 : decode cX6_isWrongBeat 111 = .ok (.iconst 1, 1) := by decide +kernel
theorem dX6_isWrongBeat_112 : decode cX6_isWrongBeat 112 = .ok (.if_icmp .gt 23, 3) := by decide +kernel
theorem dX6_isWrongBeat_115 : decode cX6_isWrongBeat 115 = .ok (.iload 4, 2) := by decide +kernel
theorem dX6_isWrongBeat_117 : decode cX6_isWrongBeat 117 = .ok (.iconst 1, 1) := by decide +kernel
theorem dX6_isWrongBeat_118 : decode cX6_isWrongBeat 118 = .ok (.if_icmp .gt 17, 3) := by decide +kernel
theorem dX6_isWrongBeat_121 : decode cX6_isWrongBeat 121 = .ok (.iload 5, 2) := by decide +kernel
theorem dX6_isWrongBeat_123 : decode cX6_isWrongBeat 123 = .ok (.ifCond .lt 16, 3) := by decide +kernel
theorem dX6_isWrongBeat_126 : decode cX6_isWrongBeat 126 = .ok (.iload_n 2, 1) := by decide +kernel
theorem dX6_isWrongBeat_127 : decode cX6_isWrongBeat 127 = .ok (.iload 5, 2) := by decide +kernel
theorem dX6_isWrongBeat_129 : decode cX6_isWrongBeat 129 = .ok (.invokestatic 137, 3) := by decide +kernel
theorem dX6_isWrongBeat_132 : decode cX6_isWrongBeat 132 = .ok (.ifCond .ne 7, 3) := by decide +kernel
theorem dX6_isWrongBeat_135 : decode cX6_isWrongBeat 135 = .ok (.iconst 1, 1) := by decide +kernel
theorem dX6_isWrongBeat_136 : decode cX6_isWrongBeat 136 = .ok (.goto 4, 3) := by decide +kernel
theorem dX6_isWrongBeat_139 : decode cX6_isWrongBeat 139 = .ok (.iconst 0, 1) := by decide +kernel
theorem dX6_isWrongBeat_140 : decode cX6_isWrongBeat 140 = .ok (.ireturn, 1) := by decide +kernel
theorem dX6_told_0 : decode cX6_told 0 = .ok (.aload_n 0, 1) := by decide +kernel
theorem dX6_told_1 : decode cX6_told 1 = .ok (.iload_n 1, 1) := by decide +kernel
theorem dX6_told_2 : decode cX6_told 2 = .ok (.invokevirtual 143, 3) := by decide +kernel
theorem dX6_told_5 : decode cX6_told 5 = .ok (.ifCond .eq 12, 3) := by decide +kernel
theorem dX6_told_8 : decode cX6_told 8 = .ok (.iload_n 2, 1) := by decide +kernel
theorem dX6_told_9 : decode cX6_told 9 = .ok (.iconst 0, 1) := by decide +kernel
theorem dX6_told_10 : decode cX6_told 10 = .ok (.iconst 2, 1) := by decide +kernel
theorem dX6_told_11 : decode cX6_told 11 = .ok (.invokestatic 75, 3) := by decide +kernel
theorem dX6_told_14 : decode cX6_told 14 = .ok (.ifCond .ne 10, 3) := by decide +kernel
theorem dX6_told_17 : decode cX6_told 17 = .ok (.aload_n 0, 1) := by decide +kernel
theorem dX6_told_18 : decode cX6_told 18 = .ok (.ldc 70, 2) := by decide +kernel
theorem dX6_told_20 : decode cX6_told 20 = .ok (.invokevirtual 87, 3) := by decide +kernel
theorem dX6_told_23 : decode cX6_told 23 = .ok (.ireturn, 1) := by decide +kernel
theorem dX6_told_24 : decode cX6_told 24 = .ok (.iload_n 2, 1) := by decide +kernel
theorem dX6_told_25 : decode cX6_told 25 = .ok (.ifCond .ne 15, 3) := by decide +kernel
theorem dX6_told_28 : decode cX6_told 28 = .ok (.aload_n 0, 1) := by decide +kernel
theorem dX6_told_29 : decode cX6_told 29 = .ok (.getfield 9, 3) := by decide +kernel
theorem dX6_told_32 : decode cX6_told 32 = .ok (.bipush 44, 2) := by decide +kernel
theorem dX6_told_34 : decode cX6_told 34 = .ok (.iload_n 1, 1) := by decide +kernel
theorem dX6_told_35 : decode cX6_told 35 = .ok (.iadd, 1) := by decide +kernel
theorem dX6_told_36 : decode cX6_told 36 = .ok (.iaload, 1) := by decide +kernel
theorem dX6_told_37 : decode cX6_told 37 = .ok (.goto 33, 3) := by decide +kernel
theorem dX6_told_40 : decode cX6_told 40 = .ok (.iload_n 2, 1) := by decide +kernel
theorem dX6_told_41 : decode cX6_told 41 = .ok (.iconst 1, 1) := by decide +kernel
theorem dX6_told_42 : decode cX6_told 42 = .ok (.if_icmp .ne 15, 3) := by decide +kernel
theorem dX6_told_45 : decode cX6_told 45 = .ok (.aload_n 0, 1) := by decide +kernel
theorem dX6_told_46 : decode cX6_told 46 = .ok (.getfield 9, 3) := by decide +kernel
theorem dX6_told_49 : decode cX6_told 49 = .ok (.bipush 56, 2) := by decide +kernel
theorem dX6_told_51 : decode cX6_told 51 = .ok (.iload_n 1, 1) := by decide +kernel
theorem dX6_told_52 : decode cX6_told 52 = .ok (.iadd, 1) := by decide +kernel
theorem dX6_told_53 : decode cX6_told 53 = .ok (.iaload, 1) := by decide +kernel
theorem dX6_told_54 : decode cX6_told 54 = .ok (.goto 16, 3) := by decide +kernel
theorem dX6_told_57 : decode cX6_told 57 = .ok (.aload_n 0, 1) := by decide +kernel
theorem dX6_told_58 : decode cX6_told 58 = .ok (.iload_n 1, 1) := by decide +kernel
theorem dX6_told_59 : decode cX6_told 59 = .ok (.invokevirtual 146, 3) := by decide +kernel
theorem dX6_told_62 : decode cX6_told 62 = .ok (.ifCond .eq 7, 3) := by decide +kernel
theorem dX6_told_65 : decode cX6_told 65 = .ok (.iconst 1, 1) := by decide +kernel
theorem dX6_told_66 : decode cX6_told 66 = .ok (.goto 4, 3) := by decide +kernel
theorem dX6_told_69 : decode cX6_told 69 = .ok (.iconst 0, 1) := by decide +kernel
theorem dX6_told_70 : decode cX6_told 70 = .ok (.ireturn, 1) := by decide +kernel
theorem dX6_tell_0 : decode cX6_tell 0 = .ok (.iload_n 2, 1) := by decide +kernel
theorem dX6_tell_1 : decode cX6_tell 1 = .ok (.ifCond .ne 11, 3) := by decide +kernel
theorem dX6_tell_4 : decode cX6_tell 4 = .ok (.aload_n 0, 1) := by decide +kernel
theorem dX6_tell_5 : decode cX6_tell 5 = .ok (.iload_n 3, 1) := by decide +kernel
theorem dX6_tell_6 : decode cX6_tell 6 = .ok (.invokevirtual 128, 3) := by decide +kernel
theorem dX6_tell_9 : decode cX6_tell 9 = .ok (.ifCond .ne 16, 3) := by decide +kernel
theorem dX6_tell_12 : decode cX6_tell 12 = .ok (.iload_n 2, 1) := by decide +kernel
theorem dX6_tell_13 : decode cX6_tell 13 = .ok (.iconst 1, 1) := by decide +kernel
theorem dX6_tell_14 : decode cX6_tell 14 = .ok (.if_icmp .ne 15, 3) := by decide +kernel
theorem dX6_tell_17 : decode cX6_tell 17 = .ok (.aload_n 0, 1) := by decide +kernel
theorem dX6_tell_18 : decode cX6_tell 18 = .ok (.iload_n 3, 1) := by decide +kernel
theorem dX6_tell_19 : decode cX6_tell 19 = .ok (.invokevirtual 131, 3) := by decide +kernel
theorem dX6_tell_22 : decode cX6_tell 22 = .ok (.ifCond .eq 7, 3) := by decide +kernel
theorem dX6_tell_25 : decode cX6_tell 25 = .ok (.iconst 1, 1) := by decide +kernel
theorem dX6_tell_26 : decode cX6_tell 26 = .ok (.goto 4, 3) := by decide +kernel
theorem dX6_tell_29 : decode cX6_tell 29 = .ok (.iconst 0, 1) := by decide +kernel
theorem dX6_tell_30 : decode cX6_tell 30 = .ok (.istore 4, 2) := by decide +kernel
theorem dX6_tell_32 : decode cX6_tell 32 = .ok (.aload_n 0, 1) := by decide +kernel
theorem dX6_tell_33 : decode cX6_tell 33 = .ok (.iload_n 1, 1) := by decide +kernel
theorem dX6_tell_34 : decode cX6_tell 34 = .ok (.invokevirtual 143, 3) := by decide +kernel
theorem dX6_tell_37 : decode cX6_tell 37 = .ok (.ifCond .eq 29, 3) := by decide +kernel
theorem dX6_tell_40 : decode cX6_tell 40 = .ok (.iload 4, 2) := by decide +kernel
theorem dX6_tell_42 : decode cX6_tell 42 = .ok (.ifCond .eq 24, 3) := by decide +kernel
theorem dX6_tell_45 : decode cX6_tell 45 = .ok (.aload_n 0, 1) := by decide +kernel
theorem dX6_tell_46 : decode cX6_tell 46 = .ok (.iload_n 2, 1) := by decide +kernel
theorem dX6_tell_47 : decode cX6_tell 47 = .ok (.ifCond .ne 8, 3) := by decide +kernel
theorem dX6_tell_50 : decode cX6_tell 50 = .ok (.bipush 44, 2) := by decide +kernel
theorem dX6_tell_52 : decode cX6_tell 52 = .ok (.goto 5, 3) := by decide +kernel
theorem dX6_tell_55 : decode cX6_tell 55 = .ok (.bipush 56, 2) := by decide +kernel
theorem dX6_tell_57 : decode cX6_tell 57 = .ok (.iload_n 1, 1) := by decide +kernel
theorem dX6_tell_58 : decode cX6_tell 58 = .ok (.iadd, 1) := by decide +kernel
theorem dX6_tell_59 : decode cX6_tell 59 = .ok (.iload_n 3, 1) := by decide +kernel
theorem dX6_tell_60 : decode cX6_tell 60 = .ok (.invokevirtual 122, 3) := by decide +kernel
theorem dX6_tell_63 : decode cX6_tell 63 = .ok (.goto 9, 3) := by decide +kernel
theorem dX6_tell_66 : decode cX6_tell 66 = .ok (.aload_n 0, 1) := by decide +kernel
theorem dX6_tell_67 : decode cX6_tell 67 = .ok (.ldc 70, 2) := by decide +kernel
theorem dX6_tell_69 : decode cX6_tell 69 = .ok (.invokevirtual 87, 3) := by decide +kernel
theorem dX6_tell_72 : decode cX6_tell 72 = .ok (.ireturn, 1) := by decide +kernel
theorem dX6_goes_0 : decode cX6_goes 0 = .ok (.aload_n 0, 1) := by decide +kernel
theorem dX6_goes_1 : decode cX6_goes 1 = .ok (.getfield 9, 3) := by decide +kernel
theorem dX6_goes_4 : decode cX6_goes 4 = .ok (.iconst 1, 1) := by decide +kernel
theorem dX6_goes_5 : decode cX6_goes 5 = .ok (.dup2, 1) := by decide +kernel
theorem dX6_goes_6 : decode cX6_goes 6 = .ok (.iaload, 1) := by decide +kernel
theorem dX6_goes_7 : decode cX6_goes 7 = .ok (.iconst 1, 1) := by decide +kernel
theorem dX6_goes_8 : decode cX6_goes 8 = .ok (.isub, 1) := by decide +kernel
theorem dX6_goes_9 : decode cX6_goes 9 = .ok (.iastore, 1) := by decide +kernel
theorem dX6_goes_10 : decode cX6_goes 10 = .ok (.iload_n 1, 1) := by decide +kernel
theorem dX6_goes_11 : decode cX6_goes 11 = .ok (.istore_n 2, 1) := by decide +kernel
theorem dX6_goes_12 : decode cX6_goes 12 = .ok (.iload_n 2, 1) := by decide +kernel
theorem dX6_goes_13 : decode cX6_goes 13 = .ok (.aload_n 0, 1) := by decide +kernel
theorem dX6_goes_14 : decode cX6_goes 14 = .ok (.getfield 9, 3) := by decide +kernel
theorem dX6_goes_17 : decode cX6_goes 17 = .ok (.iconst 1, 1) := by decide +kernel
theorem dX6_goes_18 : decode cX6_goes 18 = .ok (.iaload, 1) := by decide +kernel
theorem dX6_goes_19 : decode cX6_goes 19 = .ok (.if_icmp .ge 49, 3) := by decide +kernel
theorem dX6_goes_22 : decode cX6_goes 22 = .ok (.aload_n 0, 1) := by decide +kernel
theorem dX6_goes_23 : decode cX6_goes 23 = .ok (.getfield 9, 3) := by decide +kernel
theorem dX6_goes_26 : decode cX6_goes 26 = .ok (.bipush 44, 2) := by decide +kernel
theorem dX6_goes_28 : decode cX6_goes 28 = .ok (.iload_n 2, 1) := by decide +kernel
theorem dX6_goes_29 : decode cX6_goes 29 = .ok (.iadd, 1) := by decide +kernel
theorem dX6_goes_30 : decode cX6_goes 30 = .ok (.aload_n 0, 1) := by decide +kernel
theorem dX6_goes_31 : decode cX6_goes 31 = .ok (.getfield 9, 3) := by decide +kernel
theorem dX6_goes_34 : decode cX6_goes 34 = .ok (.bipush 44, 2) := by decide +kernel
theorem dX6_goes_36 : decode cX6_goes 36 = .ok (.iload_n 2, 1) := by decide +kernel
theorem dX6_goes_37 : decode cX6_goes 37 = .ok (.iadd, 1) := by decide +kernel
theorem dX6_goes_38 : decode cX6_goes 38 = .ok (.iconst 1, 1) := by decide +kernel
theorem dX6_goes_39 : decode cX6_goes 39 = .ok (.iadd, 1) := by decide +kernel
theorem dX6_goes_40 : decode cX6_goes 40 = .ok (.iaload, 1) := by decide +kernel
theorem dX6_goes_41 : decode cX6_goes 41 = .ok (.iastore, 1) := by decide +kernel
theorem dX6_goes_42 : decode cX6_goes 42 = .ok (.aload_n 0, 1) := by decide +kernel
theorem dX6_goes_43 : decode cX6_goes 43 = .ok (.getfield 9, 3) := by decide +kernel
theorem dX6_goes_46 : decode cX6_goes 46 = .ok (.bipush 56, 2) := by decide +kernel
theorem dX6_goes_48 : decode cX6_goes 48 = .ok (.iload_n 2, 1) := by decide +kernel
theorem dX6_goes_49 : decode cX6_goes 49 = .ok (.iadd, 1) := by decide +kernel
theorem dX6_goes_50 : decode cX6_goes 50 = .ok (.aload_n 0, 1) := by decide +kernel
theorem dX6_goes_51 : decode cX6_goes 51 = .ok (.getfield 9, 3) := by decide +kernel
theorem dX6_goes_54 : decode cX6_goes 54 = .ok (.bipush 56, 2) := by decide +kernel
theorem dX6_goes_56 : decode cX6_goes 56 = .ok (.iload_n 2, 1) := by decide +kernel
theorem dX6_goes_57 : decode cX6_goes 57 = .ok (.iadd, 1) := by decide +kernel
theorem dX6_goes_58 : decode cX6_goes 58 = .ok (.iconst 1, 1) := by decide +kernel
theorem dX6_goes_59 : decode cX6_goes 59 = .ok (.iadd, 1) := by decide +kernel
theorem dX6_goes_60 : decode cX6_goes 60 = .ok (.iaload, 1) := by decide +kernel
theorem dX6_goes_61 : decode cX6_goes 61 = .ok (.iastore, 1) := by decide +kernel
theorem dX6_goes_62 : decode cX6_goes 62 = .ok (.iinc 2 1, 3) := by decide +kernel
theorem dX6_goes_65 : decode cX6_goes 65 = .ok (.goto (-53), 3) := by decide +kernel
theorem dX6_goes_68 : decode cX6_goes 68 = .ok (.aload_n 0, 1) := by decide +kernel
theorem dX6_goes_69 : decode cX6_goes 69 = .ok (.getfield 9, 3) := by decide +kernel
theorem dX6_goes_72 : decode cX6_goes 72 = .ok (.iconst 1, 1) := by decide +kernel
theorem dX6_goes_73 : decode cX6_goes 73 = .ok (.iaload, 1) := by decide +kernel
theorem dX6_goes_74 : decode cX6_goes 74 = .ok (.ireturn, 1) := by decide +kernel
theorem dX6_cut_0 : decode cX6_cut 0 = .ok (.aload_n 0, 1) := by decide +kernel
theorem dX6_cut_1 : decode cX6_cut 1 = .ok (.iload_n 1, 1) := by decide +kernel
theorem dX6_cut_2 : decode cX6_cut 2 = .ok (.invokevirtual 143, 3) := by decide +kernel
theorem dX6_cut_5 : decode cX6_cut 5 = .ok (.ifCond .eq 11, 3) := by decide +kernel
theorem dX6_cut_8 : decode cX6_cut 8 = .ok (.aload_n 0, 1) := by decide +kernel
theorem dX6_cut_9 : decode cX6_cut 9 = .ok (.iload_n 1, 1) := by decide +kernel
theorem dX6_cut_10 : decode cX6_cut 10 = .ok (.invokevirtual 149, 3) := by decide +kernel
theorem dX6_cut_13 : decode cX6_cut 13 = .ok (.goto 9, 3) := by decide +kernel
theorem dX6_cut_16 : decode cX6_cut 16 = .ok (.aload_n 0, 1) := by decide +kernel
theorem dX6_cut_17 : decode cX6_cut 17 = .ok (.ldc 70, 2) := by decide +kernel
theorem dX6_cut_19 : decode cX6_cut 19 = .ok (.invokevirtual 87, 3) := by decide +kernel
theorem dX6_cut_22 : decode cX6_cut 22 = .ok (.ireturn, 1) := by decide +kernel
theorem dX6_wrongBeats_0 : decode cX6_wrongBeats 0 = .ok (.iconst 0, 1) := by decide +kernel
theorem dX6_wrongBeats_1 : decode cX6_wrongBeats 1 = .ok (.istore_n 1, 1) := by decide +kernel
theorem dX6_wrongBeats_2 : decode cX6_wrongBeats 2 = .ok (.iconst 0, 1) := by decide +kernel
theorem dX6_wrongBeats_3 : decode cX6_wrongBeats 3 = .ok (.istore_n 2, 1) := by decide +kernel
theorem dX6_wrongBeats_4 : decode cX6_wrongBeats 4 = .ok (.iload_n 2, 1) := by decide +kernel
theorem dX6_wrongBeats_5 : decode cX6_wrongBeats 5 = .ok (.aload_n 0, 1) := by decide +kernel
theorem dX6_wrongBeats_6 : decode cX6_wrongBeats 6 = .ok (.getfield 9, 3) := by decide +kernel
theorem dX6_wrongBeats_9 : decode cX6_wrongBeats 9 = .ok (.iconst 1, 1) := by decide +kernel
theorem dX6_wrongBeats_10 : decode cX6_wrongBeats 10 = .ok (.iaload, 1) := by decide +kernel
theorem dX6_wrongBeats_11 : decode cX6_wrongBeats 11 = .ok (.if_icmp .ge 27, 3) := by decide +kernel
theorem dX6_wrongBeats_14 : decode cX6_wrongBeats 14 = .ok (.iload_n 1, 1) := by decide +kernel
theorem dX6_wrongBeats_15 : decode cX6_wrongBeats 15 = .ok (.aload_n 0, 1) := by decide +kernel
theorem dX6_wrongBeats_16 : decode cX6_wrongBeats 16 = .ok (.iload_n 2, 1) := by decide +kernel
theorem dX6_wrongBeats_17 : decode cX6_wrongBeats 17 = .ok (.invokevirtual 146, 3) := by decide +kernel
theorem dX6_wrongBeats_20 : decode cX6_wrongBeats 20 = .ok (.ifCond .eq 9, 3) := by decide +kernel
theorem dX6_wrongBeats_23 : decode cX6_wrongBeats 23 = .ok (.iconst 1, 1) := by decide +kernel
theorem dX6_wrongBeats_24 : decode cX6_wrongBeats 24 = .ok (.iload_n 2, 1) := by decide +kernel
theorem dX6_wrongBeats_25 : decode cX6_wrongBeats 25 = .ok (.ishl, 1) := by decide +kernel
theorem dX6_wrongBeats_26 : decode cX6_wrongBeats 26 = .ok (.goto 4, 3) := by decide +kernel
theorem dX6_wrongBeats_29 : decode cX6_wrongBeats 29 = .ok (.iconst 0, 1) := by decide +kernel
theorem dX6_wrongBeats_30 : decode cX6_wrongBeats 30 = .ok (.ior, 1) := by decide +kernel
theorem dX6_wrongBeats_31 : decode cX6_wrongBeats 31 = .ok (.istore_n 1, 1) := by decide +kernel
theorem dX6_wrongBeats_32 : decode cX6_wrongBeats 32 = .ok (.iinc 2 1, 3) := by decide +kernel
theorem dX6_wrongBeats_35 : decode cX6_wrongBeats 35 = .ok (.goto (-31), 3) := by decide +kernel
theorem dX6_wrongBeats_38 : decode cX6_wrongBeats 38 = .ok (.iload_n 1, 1) := by decide +kernel
theorem dX6_wrongBeats_39 : decode cX6_wrongBeats 39 = .ok (.ireturn, 1) := by decide +kernel
theorem dX6_wrong_0 : decode cX6_wrong 0 = .ok (.aload_n 0, 1) := by decide +kernel
theorem dX6_wrong_1 : decode cX6_wrong 1 = .ok (.invokevirtual 152, 3) := by decide +kernel
theorem dX6_wrong_4 : decode cX6_wrong 4 = .ok (.ireturn, 1) := by decide +kernel
theorem dX6_whistle_0 : decode cX6_whistle 0 = .ok (.iconst 0, 1) := by decide +kernel
theorem dX6_whistle_1 : decode cX6_whistle 1 = .ok (.istore_n 1, 1) := by decide +kernel
theorem dX6_whistle_2 : decode cX6_whistle 2 = .ok (.iconst (-1), 1) := by decide +kernel
theorem dX6_whistle_3 : decode cX6_whistle 3 = .ok (.istore_n 2, 1) := by decide +kernel
theorem dX6_whistle_4 : decode cX6_whistle 4 = .ok (.iconst 0, 1) := by decide +kernel
theorem dX6_whistle_5 : decode cX6_whistle 5 = .ok (.istore_n 3, 1) := by decide +kernel
theorem dX6_whistle_6 : decode cX6_whistle 6 = .ok (.iload_n 3, 1) := by decide +kernel
theorem dX6_whistle_7 : decode cX6_whistle 7 = .ok (.aload_n 0, 1) := by decide +kernel
theorem dX6_whistle_8 : decode cX6_whistle 8 = .ok (.getfield 9, 3) := by decide +kernel
theorem dX6_whistle_11 : decode cX6_whistle 11 = .ok (.iconst 1, 1) := by decide +kernel
theorem dX6_whistle_12 : decode cX6_whistle 12 = .ok (.iaload, 1) := by decide +kernel
theorem dX6_whistle_13 : decode cX6_whistle 13 = .ok (.if_icmp .ge 58, 3) := by decide +kernel
theorem dX6_whistle_16 : decode cX6_whistle 16 = .ok (.aload_n 0, 1) := by decide +kernel
theorem dX6_whistle_17 : decode cX6_whistle 17 = .ok (.getfield 9, 3) := by decide +kernel
theorem dX6_whistle_20 : decode cX6_whistle 20 = .ok (.bipush 56, 2) := by decide +kernel
theorem dX6_whistle_22 : decode cX6_whistle 22 = .ok (.iload_n 3, 1) := by decide +kernel
theorem dX6_whistle_23 : decode cX6_whistle 23 = .ok (.iadd, 1) := by decide +kernel
theorem dX6_whistle_24 : decode cX6_whistle 24 = .ok (.iaload, 1) := by decide +kernel
theorem dX6_whistle_25 : decode cX6_whistle 25 = .ok (.istore 4, 2) := by decide +kernel
theorem dX6_whistle_27 : decode cX6_whistle 27 = .ok (.iload 4, 2) := by decide +kernel
theorem dX6_whistle_29 : decode cX6_whistle 29 = .ok (.ifCond .ge 7, 3) := by decide +kernel
theorem dX6_whistle_32 : decode cX6_whistle 32 = .ok (.iload_n 2, 1) := by decide +kernel
theorem dX6_whistle_33 : decode cX6_whistle 33 = .ok (.goto 9, 3) := by decide +kernel
theorem dX6_whistle_36 : decode cX6_whistle 36 = .ok (.aload_n 0, 1) := by decide +kernel
theorem dX6_whistle_37 : decode cX6_whistle 37 = .ok (.iload 4, 2) := by decide +kernel
theorem dX6_whistle_39 : decode cX6_whistle 39 = .ok (.invokevirtual 119, 3) := by decide +kernel
theorem dX6_whistle_42 : decode cX6_whistle 42 = .ok (.istore 5, 2) := by decide +kernel
theorem dX6_whistle_44 : decode cX6_whistle 44 = .ok (.iload_n 1, 1) := by decide +kernel
theorem dX6_whistle_45 : decode cX6_whistle 45 = .ok (.iload_n 2, 1) := by decide +kernel
theorem dX6_whistle_46 : decode cX6_whistle 46 = .ok (.ifCond .lt 13, 3) := by decide +kernel
theorem dX6_whistle_49 : decode cX6_whistle 49 = .ok (.iload 5, 2) := by decide +kernel
theorem dX6_whistle_51 : decode cX6_whistle 51 = .ok (.iload_n 2, 1) := by decide +kernel
theorem dX6_whistle_52 : decode cX6_whistle 52 = .ok (.if_icmp .eq 7, 3) := by decide +kernel
theorem dX6_whistle_55 : decode cX6_whistle 55 = .ok (.iconst 1, 1) := by decide +kernel
theorem dX6_whistle_56 : decode cX6_whistle 56 = .ok (.goto 4, 3) := by decide +kernel
theorem dX6_whistle_59 : decode cX6_whistle 59 = .ok (.iconst 0, 1) := by decide +kernel
theorem dX6_whistle_60 : decode cX6_whistle 60 = .ok (.iadd, 1) := by decide +kernel
theorem dX6_whistle_61 : decode cX6_whistle 61 = .ok (.istore_n 1, 1) := by decide +kernel
theorem dX6_whistle_62 : decode cX6_whistle 62 = .ok (.iload 5, 2) := by decide +kernel
theorem dX6_whistle_64 : decode cX6_whistle 64 = .ok (.istore_n 2, 1) := by decide +kernel
theorem dX6_whistle_65 : decode cX6_whistle 65 = .ok (.iinc 3 1, 3) := by decide +kernel
theorem dX6_whistle_68 : decode cX6_whistle 68 = .ok (.goto (-62), 3) := by decide +kernel
theorem dX6_whistle_71 : decode cX6_whistle 71 = .ok (.iload_n 1, 1) := by decide +kernel
theorem dX6_whistle_72 : decode cX6_whistle 72 = .ok (.ireturn, 1) := by decide +kernel
theorem dX6_isHand_0 : decode cX6_isHand 0 = .ok (.iload_n 0, 1) := by decide +kernel
theorem dX6_isHand_1 : decode cX6_isHand 1 = .ok (.iconst 0, 1) := by decide +kernel
theorem dX6_isHand_2 : decode cX6_isHand 2 = .ok (.iconst 1, 1) := by decide +kernel
theorem dX6_isHand_3 : decode cX6_isHand 3 = .ok (.invokestatic 75, 3) := by decide +kernel
theorem dX6_isHand_6 : decode cX6_isHand 6 = .ok (.ireturn, 1) := by decide +kernel
theorem dX6_takes_0 : decode cX6_takes 0 = .ok (.iload_n 1, 1) := by decide +kernel
theorem dX6_takes_1 : decode cX6_takes 1 = .ok (.iload_n 2, 1) := by decide +kernel
theorem dX6_takes_2 : decode cX6_takes 2 = .ok (.if_icmp .ne 7, 3) := by decide +kernel
theorem dX6_takes_5 : decode cX6_takes 5 = .ok (.iconst 0, 1) := by decide +kernel
theorem dX6_takes_6 : decode cX6_takes 6 = .ok (.goto 23, 3) := by decide +kernel
theorem dX6_takes_9 : decode cX6_takes 9 = .ok (.iload_n 2, 1) := by decide +kernel
theorem dX6_takes_10 : decode cX6_takes 10 = .ok (.ifCond .ge 7, 3) := by decide +kernel
theorem dX6_takes_13 : decode cX6_takes 13 = .ok (.iconst 1, 1) := by decide +kernel
theorem dX6_takes_14 : decode cX6_takes 14 = .ok (.goto 15, 3) := by decide +kernel
theorem dX6_takes_17 : decode cX6_takes 17 = .ok (.aload_n 0, 1) := by decide +kernel
theorem dX6_takes_18 : decode cX6_takes 18 = .ok (.iload_n 2, 1) := by decide +kernel
theorem dX6_takes_19 : decode cX6_takes 19 = .ok (.invokevirtual 116, 3) := by decide +kernel
theorem dX6_takes_22 : decode cX6_takes 22 = .ok (.aload_n 0, 1) := by decide +kernel
theorem dX6_takes_23 : decode cX6_takes 23 = .ok (.iload_n 2, 1) := by decide +kernel
theorem dX6_takes_24 : decode cX6_takes 24 = .ok (.iconst 2, 1) := by decide +kernel
theorem dX6_takes_25 : decode cX6_takes 25 = .ok (.invokevirtual 98, 3) := by decide +kernel
theorem dX6_takes_28 : decode cX6_takes 28 = .ok (.iadd, 1) := by decide +kernel
theorem dX6_takes_29 : decode cX6_takes 29 = .ok (.ireturn, 1) := by decide +kernel
theorem dX6_putsIt_0 : decode cX6_putsIt 0 = .ok (.aload_n 0, 1) := by decide +kernel
theorem dX6_putsIt_1 : decode cX6_putsIt 1 = .ok (.aload_n 0, 1) := by decide +kernel
theorem dX6_putsIt_2 : decode cX6_putsIt 2 = .ok (.getfield 9, 3) := by decide +kernel
theorem dX6_putsIt_5 : decode cX6_putsIt 5 = .ok (.iconst 2, 1) := by decide +kernel
theorem dX6_putsIt_6 : decode cX6_putsIt 6 = .ok (.iload_n 1, 1) := by decide +kernel
theorem dX6_putsIt_7 : decode cX6_putsIt 7 = .ok (.iadd, 1) := by decide +kernel
theorem dX6_putsIt_8 : decode cX6_putsIt 8 = .ok (.iaload, 1) := by decide +kernel
theorem dX6_putsIt_9 : decode cX6_putsIt 9 = .ok (.iload_n 2, 1) := by decide +kernel
theorem dX6_putsIt_10 : decode cX6_putsIt 10 = .ok (.invokevirtual 156, 3) := by decide +kernel
theorem dX6_putsIt_13 : decode cX6_putsIt 13 = .ok (.istore_n 3, 1) := by decide +kernel
theorem dX6_putsIt_14 : decode cX6_putsIt 14 = .ok (.aload_n 0, 1) := by decide +kernel
theorem dX6_putsIt_15 : decode cX6_putsIt 15 = .ok (.getfield 9, 3) := by decide +kernel
theorem dX6_putsIt_18 : decode cX6_putsIt 18 = .ok (.iconst 4, 1) := by decide +kernel
theorem dX6_putsIt_19 : decode cX6_putsIt 19 = .ok (.dup2, 1) := by decide +kernel
theorem dX6_putsIt_20 : decode cX6_putsIt 20 = .ok (.iaload, 1) := by decide +kernel
theorem dX6_putsIt_21 : decode cX6_putsIt 21 = .ok (.aload_n 0, 1) := by decide +kernel
theorem dX6_putsIt_22 : decode cX6_putsIt 22 = .ok (.getfield 9, 3) := by decide +kernel
theorem dX6_putsIt_25 : decode cX6_putsIt 25 = .ok (.iconst 2, 1) := by decide +kernel
theorem dX6_putsIt_26 : decode cX6_putsIt 26 = .ok (.iload_n 1, 1) := by decide +kernel
theorem dX6_putsIt_27 : decode cX6_putsIt 27 = .ok (.iadd, 1) := by decide +kernel
theorem dX6_putsIt_28 : decode cX6_putsIt 28 = .ok (.iaload, 1) := by decide +kernel
theorem dX6_putsIt_29 : decode cX6_putsIt 29 = .ok (.iload_n 2, 1) := by decide +kernel
theorem dX6_putsIt_30 : decode cX6_putsIt 30 = .ok (.if_icmp .ne 7, 3) := by decide +kernel
theorem dX6_putsIt_33 : decode cX6_putsIt 33 = .ok (.iconst 0, 1) := by decide +kernel
theorem dX6_putsIt_34 : decode cX6_putsIt 34 = .ok (.goto 4, 3) := by decide +kernel
theorem dX6_putsIt_37 : decode cX6_putsIt 37 = .ok (.iconst 1, 1) := by decide +kernel
theorem dX6_putsIt_38 : decode cX6_putsIt 38 = .ok (.iadd, 1) := by decide +kernel
theorem dX6_putsIt_39 : decode cX6_putsIt 39 = .ok (.iastore, 1) := by decide +kernel
theorem dX6_putsIt_40 : decode cX6_putsIt 40 = .ok (.aload_n 0, 1) := by decide +kernel
theorem dX6_putsIt_41 : decode cX6_putsIt 41 = .ok (.getfield 9, 3) := by decide +kernel
theorem dX6_putsIt_44 : decode cX6_putsIt 44 = .ok (.iconst 5, 1) := by decide +kernel
theorem dX6_putsIt_45 : decode cX6_putsIt 45 = .ok (.dup2, 1) := by decide +kernel
theorem dX6_putsIt_46 : decode cX6_putsIt 46 = .ok (.iaload, 1) := by decide +kernel
theorem dX6_putsIt_47 : decode cX6_putsIt 47 = .ok (.iload_n 3, 1) := by decide +kernel
theorem dX6_putsIt_48 : decode cX6_putsIt 48 = .ok (.iadd, 1) := by decide +kernel
theorem dX6_putsIt_49 : decode cX6_putsIt 49 = .ok (.iastore, 1) := by decide +kernel
theorem dX6_putsIt_50 : decode cX6_putsIt 50 = .ok (.aload_n 0, 1) := by decide +kernel
theorem dX6_putsIt_51 : decode cX6_putsIt 51 = .ok (.getfield 9, 3) := by decide +kernel
theorem dX6_putsIt_54 : decode cX6_putsIt 54 = .ok (.iconst 2, 1) := by decide +kernel
theorem dX6_putsIt_55 : decode cX6_putsIt 55 = .ok (.iload_n 1, 1) := by decide +kernel
theorem dX6_putsIt_56 : decode cX6_putsIt 56 = .ok (.iadd, 1) := by decide +kernel
theorem dX6_putsIt_57 : decode cX6_putsIt 57 = .ok (.iload_n 2, 1) := by decide +kernel
theorem dX6_putsIt_58 : decode cX6_putsIt 58 = .ok (.iastore, 1) := by decide +kernel
theorem dX6_putsIt_59 : decode cX6_putsIt 59 = .ok (.iload_n 3, 1) := by decide +kernel
theorem dX6_putsIt_60 : decode cX6_putsIt 60 = .ok (.ireturn, 1) := by decide +kernel
theorem dX6_puts_0 : decode cX6_puts 0 = .ok (.iload_n 1, 1) := by decide +kernel
theorem dX6_puts_1 : decode cX6_puts 1 = .ok (.invokestatic 159, 3) := by decide +kernel
theorem dX6_puts_4 : decode cX6_puts 4 = .ok (.ifCond .eq 11, 3) := by decide +kernel
theorem dX6_puts_7 : decode cX6_puts 7 = .ok (.aload_n 0, 1) := by decide +kernel
theorem dX6_puts_8 : decode cX6_puts 8 = .ok (.iload_n 2, 1) := by decide +kernel
theorem dX6_puts_9 : decode cX6_puts 9 = .ok (.invokevirtual 131, 3) := by decide +kernel
theorem dX6_puts_12 : decode cX6_puts 12 = .ok (.ifCond .ne 10, 3) := by decide +kernel
theorem dX6_puts_15 : decode cX6_puts 15 = .ok (.aload_n 0, 1) := by decide +kernel
theorem dX6_puts_16 : decode cX6_puts 16 = .ok (.ldc 70, 2) := by decide +kernel
theorem dX6_puts_18 : decode cX6_puts 18 = .ok (.invokevirtual 87, 3) := by decide +kernel
theorem dX6_puts_21 : decode cX6_puts 21 = .ok (.ireturn, 1) := by decide +kernel
theorem dX6_puts_22 : decode cX6_puts 22 = .ok (.iload_n 2, 1) := by decide +kernel
theorem dX6_puts_23 : decode cX6_puts 23 = .ok (.ifCond .lt 24, 3) := by decide +kernel
theorem dX6_puts_26 : decode cX6_puts 26 = .ok (.aload_n 0, 1) := by decide +kernel
theorem dX6_puts_27 : decode cX6_puts 27 = .ok (.getfield 9, 3) := by decide +kernel
theorem dX6_puts_30 : decode cX6_puts 30 = .ok (.iconst 3, 1) := by decide +kernel
theorem dX6_puts_31 : decode cX6_puts 31 = .ok (.iload_n 1, 1) := by decide +kernel
theorem dX6_puts_32 : decode cX6_puts 32 = .ok (.isub, 1) := by decide +kernel
