theorem dX6_readItem_37 : decode cX6_readItem 37 = .ok (.aload_n 0, 1) := by decide +kernel
theorem dX6_readItem_38 : decode cX6_readItem 38 = .ok (.iload_n 1, 1) := by decide +kernel
theorem dX6_readItem_39 : decode cX6_readItem 39 = .ok (.aload_n 0, 1) := by decide +kernel
theorem dX6_readItem_40 : decode cX6_readItem 40 = .ok (.ldc_w 312, 3) := by decide +kernel
theorem dX6_readItem_43 : decode cX6_readItem 43 = .ok (.invokevirtual 314, 3) := by decide +kernel
theorem dX6_readItem_46 : decode cX6_readItem 46 = .ok (.ifCond .eq 13, 3) := by decide +kernel
theorem dX6_readItem_49 : decode cX6_readItem 49 = .ok (.aload_n 0, 1) := by decide +kernel
theorem dX6_readItem_50 : decode cX6_readItem 50 = .ok (.iconst 1, 1) := by decide +kernel
theorem dX6_readItem_51 : decode cX6_readItem 51 = .ok (.bipush 9, 2) := by decide +kernel
theorem dX6_readItem_53 : decode cX6_readItem 53 = .ok (.invokevirtual 317, 3) := by decide +kernel
theorem dX6_readItem_56 : decode cX6_readItem 56 = .ok (.goto 4, 3) := by decide +kernel
theorem dX6_readItem_59 : decode cX6_readItem 59 = .ok (.iconst 3, 1) := by decide +kernel
theorem dX6_readItem_60 : decode cX6_readItem 60 = .ok (.iconst 0, 1) := by decide +kernel
theorem dX6_readItem_61 : decode cX6_readItem 61 = .ok (.invokevirtual 320, 3) := by decide +kernel
theorem dX6_readItem_64 : decode cX6_readItem 64 = .ok (.goto 158, 3) := by decide +kernel
theorem dX6_readItem_67 : decode cX6_readItem 67 = .ok (.aload_n 0, 1) := by decide +kernel
theorem dX6_readItem_68 : decode cX6_readItem 68 = .ok (.ldc_w 324, 3) := by decide +kernel
theorem dX6_readItem_71 : decode cX6_readItem 71 = .ok (.invokevirtual 302, 3) := by decide +kernel
theorem dX6_readItem_74 : decode cX6_readItem 74 = .ok (.ifCond .eq 80, 3) := by decide +kernel
theorem dX6_readItem_77 : decode cX6_readItem 77 = .ok (.aload_n 0, 1) := by decide +kernel
theorem dX6_readItem_78 : decode cX6_readItem 78 = .ok (.aload_n 0, 1) := by decide +kernel
theorem dX6_readItem_79 : decode cX6_readItem 79 = .ok (.getfield 326, 3) := by decide +kernel
theorem dX6_readItem_82 : decode cX6_readItem 82 = .ok (.bipush 12, 2) := by decide +kernel
theorem dX6_readItem_84 : decode cX6_readItem 84 = .ok (.if_icmp .ge 7, 3) := by decide +kernel
theorem dX6_readItem_87 : decode cX6_readItem 87 = .ok (.iconst 1, 1) := by decide +kernel
theorem dX6_readItem_88 : decode cX6_readItem 88 = .ok (.goto 4, 3) := by decide +kernel
theorem dX6_readItem_91 : decode cX6_readItem 91 = .ok (.iconst 0, 1) := by decide +kernel
theorem dX6_readItem_92 : decode cX6_readItem 92 = .ok (.invokevirtual 295, 3) := by decide +kernel
theorem dX6_readItem_95 : decode cX6_readItem 95 = .ok (.aload_n 0, 1) := by decide +kernel
theorem dX6_readItem_96 : decode cX6_readItem 96 = .ok (.dup, 1) := by decide +kernel
theorem dX6_readItem_97 : decode cX6_readItem 97 = .ok (.getfield 326, 3) := by decide +kernel
theorem dX6_readItem_100 : decode cX6_readItem 100 = .ok (.iconst 1, 1) := by decide +kernel
theorem dX6_readItem_101 : decode cX6_readItem 101 = .ok (.iadd, 1) := by decide +kernel
theorem dX6_readItem_102 : decode cX6_readItem 102 = .ok (.putfield 326, 3) := by decide +kernel
theorem dX6_readItem_105 : decode cX6_readItem 105 = .ok (.aload_n 0, 1) := by decide +kernel
theorem dX6_readItem_106 : decode cX6_readItem 106 = .ok (.iconst 0, 1) := by decide +kernel
theorem dX6_readItem_107 : decode cX6_readItem 107 = .ok (.iconst 1, 1) := by decide +kernel
theorem dX6_readItem_108 : decode cX6_readItem 108 = .ok (.aload_n 0, 1) := by decide +kernel
theorem dX6_readItem_109 : decode cX6_readItem 109 = .ok (.getfield 309, 3) := by decide +kernel
theorem dX6_readItem_112 : decode cX6_readItem 112 = .ok (.ishl, 1) := by decide +kernel
theorem dX6_readItem_113 : decode cX6_readItem 113 = .ok (.iconst 1, 1) := by decide +kernel
theorem dX6_readItem_114 : decode cX6_readItem 114 = .ok (.isub, 1) := by decide +kernel
theorem dX6_readItem_115 : decode cX6_readItem 115 = .ok (.invokevirtual 317, 3) := by decide +kernel
theorem dX6_readItem_118 : decode cX6_readItem 118 = .ok (.istore_n 2, 1) := by decide +kernel
theorem dX6_readItem_119 : decode cX6_readItem 119 = .ok (.aload_n 0, 1) := by decide +kernel
theorem dX6_readItem_120 : decode cX6_readItem 120 = .ok (.bipush 10, 2) := by decide +kernel
theorem dX6_readItem_122 : decode cX6_readItem 122 = .ok (.iload_n 2, 1) := by decide +kernel
theorem dX6_readItem_123 : decode cX6_readItem 123 = .ok (.aload_n 0, 1) := by decide +kernel
theorem dX6_readItem_124 : decode cX6_readItem 124 = .ok (.ldc_w 329, 3) := by decide +kernel
theorem dX6_readItem_127 : decode cX6_readItem 127 = .ok (.invokevirtual 314, 3) := by decide +kernel
theorem dX6_readItem_130 : decode cX6_readItem 130 = .ok (.ifCond .eq 17, 3) := by decide +kernel
theorem dX6_readItem_133 : decode cX6_readItem 133 = .ok (.aload_n 0, 1) := by decide +kernel
theorem dX6_readItem_134 : decode cX6_readItem 134 = .ok (.iconst 0, 1) := by decide +kernel
theorem dX6_readItem_135 : decode cX6_readItem 135 = .ok (.aload_n 0, 1) := by decide +kernel
theorem dX6_readItem_136 : decode cX6_readItem 136 = .ok (.getfield 309, 3) := by decide +kernel
theorem dX6_readItem_139 : decode cX6_readItem 139 = .ok (.iconst 1, 1) := by decide +kernel
theorem dX6_readItem_140 : decode cX6_readItem 140 = .ok (.isub, 1) := by decide +kernel
theorem dX6_readItem_141 : decode cX6_readItem 141 = .ok (.invokevirtual 317, 3) := by decide +kernel
theorem dX6_readItem_144 : decode cX6_readItem 144 = .ok (.goto 4, 3) := by decide +kernel
theorem dX6_readItem_147 : decode cX6_readItem 147 = .ok (.iconst (-1), 1) := by decide +kernel
theorem dX6_readItem_148 : decode cX6_readItem 148 = .ok (.invokevirtual 320, 3) := by decide +kernel
theorem dX6_readItem_151 : decode cX6_readItem 151 = .ok (.goto 71, 3) := by decide +kernel
theorem dX6_readItem_154 : decode cX6_readItem 154 = .ok (.aload_n 0, 1) := by decide +kernel
theorem dX6_readItem_155 : decode cX6_readItem 155 = .ok (.ldc_w 331, 3) := by decide +kernel
theorem dX6_readItem_158 : decode cX6_readItem 158 = .ok (.invokevirtual 314, 3) := by decide +kernel
theorem dX6_readItem_161 : decode cX6_readItem 161 = .ok (.ifCond .eq 20, 3) := by decide +kernel
theorem dX6_readItem_164 : decode cX6_readItem 164 = .ok (.aload_n 0, 1) := by decide +kernel
theorem dX6_readItem_165 : decode cX6_readItem 165 = .ok (.bipush 11, 2) := by decide +kernel
theorem dX6_readItem_167 : decode cX6_readItem 167 = .ok (.aload_n 0, 1) := by decide +kernel
theorem dX6_readItem_168 : decode cX6_readItem 168 = .ok (.iconst 0, 1) := by decide +kernel
theorem dX6_readItem_169 : decode cX6_readItem 169 = .ok (.bipush 10, 2) := by decide +kernel
theorem dX6_readItem_171 : decode cX6_readItem 171 = .ok (.invokevirtual 317, 3) := by decide +kernel
theorem dX6_readItem_174 : decode cX6_readItem 174 = .ok (.iconst 0, 1) := by decide +kernel
theorem dX6_readItem_175 : decode cX6_readItem 175 = .ok (.invokevirtual 320, 3) := by decide +kernel
theorem dX6_readItem_178 : decode cX6_readItem 178 = .ok (.goto 44, 3) := by decide +kernel
theorem dX6_readItem_181 : decode cX6_readItem 181 = .ok (.aload_n 0, 1) := by decide +kernel
theorem dX6_readItem_182 : decode cX6_readItem 182 = .ok (.aload_n 0, 1) := by decide +kernel
theorem dX6_readItem_183 : decode cX6_readItem 183 = .ok (.ldc_w 333, 3) := by decide +kernel
theorem dX6_readItem_186 : decode cX6_readItem 186 = .ok (.invokevirtual 302, 3) := by decide +kernel
theorem dX6_readItem_189 : decode cX6_readItem 189 = .ok (.invokevirtual 295, 3) := by decide +kernel
theorem dX6_readItem_192 : decode cX6_readItem 192 = .ok (.aload_n 0, 1) := by decide +kernel
theorem dX6_readItem_193 : decode cX6_readItem 193 = .ok (.iconst 0, 1) := by decide +kernel
theorem dX6_readItem_194 : decode cX6_readItem 194 = .ok (.aload_n 0, 1) := by decide +kernel
theorem dX6_readItem_195 : decode cX6_readItem 195 = .ok (.getfield 309, 3) := by decide +kernel
theorem dX6_readItem_198 : decode cX6_readItem 198 = .ok (.iconst 1, 1) := by decide +kernel
theorem dX6_readItem_199 : decode cX6_readItem 199 = .ok (.isub, 1) := by decide +kernel
theorem dX6_readItem_200 : decode cX6_readItem 200 = .ok (.invokevirtual 317, 3) := by decide +kernel
theorem dX6_readItem_203 : decode cX6_readItem 203 = .ok (.istore_n 2, 1) := by decide +kernel
theorem dX6_readItem_204 : decode cX6_readItem 204 = .ok (.aload_n 0, 1) := by decide +kernel
theorem dX6_readItem_205 : decode cX6_readItem 205 = .ok (.bipush 12, 2) := by decide +kernel
theorem dX6_readItem_207 : decode cX6_readItem 207 = .ok (.iload_n 2, 1) := by decide +kernel
theorem dX6_readItem_208 : decode cX6_readItem 208 = .ok (.aload_n 0, 1) := by decide +kernel
theorem dX6_readItem_209 : decode cX6_readItem 209 = .ok (.iconst 0, 1) := by decide +kernel
theorem dX6_readItem_210 : decode cX6_readItem 210 = .ok (.aload_n 0, 1) := by decide +kernel
theorem dX6_readItem_211 : decode cX6_readItem 211 = .ok (.getfield 309, 3) := by decide +kernel
theorem dX6_readItem_214 : decode cX6_readItem 214 = .ok (.iconst 1, 1) := by decide +kernel
theorem dX6_readItem_215 : decode cX6_readItem 215 = .ok (.isub, 1) := by decide +kernel
theorem dX6_readItem_216 : decode cX6_readItem 216 = .ok (.invokevirtual 317, 3) := by decide +kernel
theorem dX6_readItem_219 : decode cX6_readItem 219 = .ok (.invokevirtual 320, 3) := by decide +kernel
theorem dX6_readItem_222 : decode cX6_readItem 222 = .ok (.return_, 1) := by decide +kernel
theorem dX6_isSo_0 : decode cX6_isSo 0 = .ok (.aload_n 0, 1) := by decide +kernel
theorem dX6_isSo_1 : decode cX6_isSo 1 = .ok (.getfield 55, 3) := by decide +kernel
theorem dX6_isSo_4 : decode cX6_isSo 4 = .ok (.iload_n 1, 1) := by decide +kernel
theorem dX6_isSo_5 : decode cX6_isSo 5 = .ok (.iconst 1, 1) := by decide +kernel
theorem dX6_isSo_6 : decode cX6_isSo 6 = .ok (.iadd, 1) := by decide +kernel
theorem dX6_isSo_7 : decode cX6_isSo 7 = .ok (.iaload, 1) := by decide +kernel
theorem dX6_isSo_8 : decode cX6_isSo 8 = .ok (.istore_n 2, 1) := by decide +kernel
theorem dX6_isSo_9 : decode cX6_isSo 9 = .ok (.aload_n 0, 1) := by decide +kernel
theorem dX6_isSo_10 : decode cX6_isSo 10 = .ok (.getfield 55, 3) := by decide +kernel
theorem dX6_isSo_13 : decode cX6_isSo 13 = .ok (.iload_n 1, 1) := by decide +kernel
theorem dX6_isSo_14 : decode cX6_isSo 14 = .ok (.iconst 2, 1) := by decide +kernel
theorem dX6_isSo_15 : decode cX6_isSo 15 = .ok (.iadd, 1) := by decide +kernel
theorem dX6_isSo_16 : decode cX6_isSo 16 = .ok (.iaload, 1) := by decide +kernel
theorem dX6_isSo_17 : decode cX6_isSo 17 = .ok (.istore_n 3, 1) := by decide +kernel
theorem dX6_isSo_18 : decode cX6_isSo 18 = .ok (.aload_n 0, 1) := by decide +kernel
theorem dX6_isSo_19 : decode cX6_isSo 19 = .ok (.getfield 55, 3) := by decide +kernel
theorem dX6_isSo_22 : decode cX6_isSo 22 = .ok (.iload_n 1, 1) := by decide +kernel
theorem dX6_isSo_23 : decode cX6_isSo 23 = .ok (.iaload, 1) := by decide +kernel
theorem dX6_isSo_24 : decode cX6_isSo 24 = .ok (.tableswitch 50 10 12 #[28, 35, 43], 28) := by decide +kernel
theorem dX6_isSo_52 : decode cX6_isSo 52 = .ok (.aload_n 0, 1) := by decide +kernel
theorem dX6_isSo_53 : decode cX6_isSo 53 = .ok (.iload_n 2, 1) := by decide +kernel
theorem dX6_isSo_54 : decode cX6_isSo 54 = .ok (.iload_n 3, 1) := by decide +kernel
theorem dX6_isSo_55 : decode cX6_isSo 55 = .ok (.invokevirtual 134, 3) := by decide +kernel
theorem dX6_isSo_58 : decode cX6_isSo 58 = .ok (.ireturn, 1) := by decide +kernel
theorem dX6_isSo_59 : decode cX6_isSo 59 = .ok (.aload_n 0, 1) := by decide +kernel
theorem dX6_isSo_60 : decode cX6_isSo 60 = .ok (.bipush 8, 2) := by decide +kernel
theorem dX6_isSo_62 : decode cX6_isSo 62 = .ok (.iload_n 2, 1) := by decide +kernel
theorem dX6_isSo_63 : decode cX6_isSo 63 = .ok (.invokevirtual 122, 3) := by decide +kernel
theorem dX6_isSo_66 : decode cX6_isSo 66 = .ok (.ireturn, 1) := by decide +kernel
theorem dX6_isSo_67 : decode cX6_isSo 67 = .ok (.aload_n 0, 1) := by decide +kernel
theorem dX6_isSo_68 : decode cX6_isSo 68 = .ok (.iload_n 2, 1) := by decide +kernel
theorem dX6_isSo_69 : decode cX6_isSo 69 = .ok (.iload_n 3, 1) := by decide +kernel
theorem dX6_isSo_70 : decode cX6_isSo 70 = .ok (.invokevirtual 125, 3) := by decide +kernel
theorem dX6_isSo_73 : decode cX6_isSo 73 = .ok (.ireturn, 1) := by decide +kernel
theorem dX6_isSo_74 : decode cX6_isSo 74 = .ok (.aload_n 0, 1) := by decide +kernel
theorem dX6_isSo_75 : decode cX6_isSo 75 = .ok (.aload_n 0, 1) := by decide +kernel
theorem dX6_isSo_76 : decode cX6_isSo 76 = .ok (.getfield 55, 3) := by decide +kernel
theorem dX6_isSo_79 : decode cX6_isSo 79 = .ok (.iload_n 1, 1) := by decide +kernel
theorem dX6_isSo_80 : decode cX6_isSo 80 = .ok (.iaload, 1) := by decide +kernel
theorem dX6_isSo_81 : decode cX6_isSo 81 = .ok (.iload_n 2, 1) := by decide +kernel
theorem dX6_isSo_82 : decode cX6_isSo 82 = .ok (.invokevirtual 92, 3) := by decide +kernel
theorem dX6_isSo_85 : decode cX6_isSo 85 = .ok (.ireturn, 1) := by decide +kernel
theorem dX6_text_0 : decode cX6_text 0 = .ok (.aload_n 0, 1) := by decide +kernel
theorem dX6_text_1 : decode cX6_text 1 = .ok (.iconst 0, 1) := by decide +kernel
theorem dX6_text_2 : decode cX6_text 2 = .ok (.putfield 266, 3) := by decide +kernel
theorem dX6_text_5 : decode cX6_text 5 = .ok (.aload_n 0, 1) := by decide +kernel
theorem dX6_text_6 : decode cX6_text 6 = .ok (.iconst 0, 1) := by decide +kernel
theorem dX6_text_7 : decode cX6_text 7 = .ok (.putfield 288, 3) := by decide +kernel
theorem dX6_text_10 : decode cX6_text 10 = .ok (.aload_n 0, 1) := by decide +kernel
theorem dX6_text_11 : decode cX6_text 11 = .ok (.iconst 0, 1) := by decide +kernel
theorem dX6_text_12 : decode cX6_text 12 = .ok (.putfield 299, 3) := by decide +kernel
theorem dX6_text_15 : decode cX6_text 15 = .ok (.aload_n 0, 1) := by decide +kernel
theorem dX6_text_16 : decode cX6_text 16 = .ok (.aload_n 0, 1) := by decide +kernel
theorem dX6_text_17 : decode cX6_text 17 = .ok (.getfield 9, 3) := by decide +kernel
theorem dX6_text_20 : decode cX6_text 20 = .ok (.iconst 0, 1) := by decide +kernel
theorem dX6_text_21 : decode cX6_text 21 = .ok (.iaload, 1) := by decide +kernel
theorem dX6_text_22 : decode cX6_text 22 = .ok (.putfield 309, 3) := by decide +kernel
theorem dX6_text_25 : decode cX6_text 25 = .ok (.aload_n 0, 1) := by decide +kernel
theorem dX6_text_26 : decode cX6_text 26 = .ok (.aload_n 0, 1) := by decide +kernel
theorem dX6_text_27 : decode cX6_text 27 = .ok (.getfield 9, 3) := by decide +kernel
theorem dX6_text_30 : decode cX6_text 30 = .ok (.iconst 1, 1) := by decide +kernel
theorem dX6_text_31 : decode cX6_text 31 = .ok (.iaload, 1) := by decide +kernel
theorem dX6_text_32 : decode cX6_text 32 = .ok (.putfield 326, 3) := by decide +kernel
theorem dX6_text_35 : decode cX6_text 35 = .ok (.aload_n 0, 1) := by decide +kernel
theorem dX6_text_36 : decode cX6_text 36 = .ok (.invokevirtual 292, 3) := by decide +kernel
theorem dX6_text_39 : decode cX6_text 39 = .ok (.aload_n 0, 1) := by decide +kernel
theorem dX6_text_40 : decode cX6_text 40 = .ok (.invokevirtual 335, 3) := by decide +kernel
theorem dX6_text_43 : decode cX6_text 43 = .ok (.aload_n 0, 1) := by decide +kernel
theorem dX6_text_44 : decode cX6_text 44 = .ok (.getfield 288, 3) := by decide +kernel
theorem dX6_text_47 : decode cX6_text 47 = .ok (.ifCond .ne 37, 3) := by decide +kernel
theorem dX6_text_50 : decode cX6_text 50 = .ok (.aload_n 0, 1) := by decide +kernel
theorem dX6_text_51 : decode cX6_text 51 = .ok (.getfield 278, 3) := by decide +kernel
theorem dX6_text_54 : decode cX6_text 54 = .ok (.iconst 3, 1) := by decide +kernel
theorem dX6_text_55 : decode cX6_text 55 = .ok (.if_icmp .ne 29, 3) := by decide +kernel
theorem dX6_text_58 : decode cX6_text 58 = .ok (.aload_n 0, 1) := by decide +kernel
theorem dX6_text_59 : decode cX6_text 59 = .ok (.getfield 32, 3) := by decide +kernel
theorem dX6_text_62 : decode cX6_text 62 = .ok (.aload_n 0, 1) := by decide +kernel
theorem dX6_text_63 : decode cX6_text 63 = .ok (.getfield 269, 3) := by decide +kernel
theorem dX6_text_66 : decode cX6_text 66 = .ok (.iaload, 1) := by decide +kernel
theorem dX6_text_67 : decode cX6_text 67 = .ok (.bipush 59, 2) := by decide +kernel
theorem dX6_text_69 : decode cX6_text 69 = .ok (.if_icmp .ne 15, 3) := by decide +kernel
theorem dX6_text_72 : decode cX6_text 72 = .ok (.aload_n 0, 1) := by decide +kernel
theorem dX6_text_73 : decode cX6_text 73 = .ok (.iconst 1, 1) := by decide +kernel
theorem dX6_text_74 : decode cX6_text 74 = .ok (.invokevirtual 295, 3) := by decide +kernel
theorem dX6_text_77 : decode cX6_text 77 = .ok (.aload_n 0, 1) := by decide +kernel
theorem dX6_text_78 : decode cX6_text 78 = .ok (.invokevirtual 335, 3) := by decide +kernel
theorem dX6_text_81 : decode cX6_text 81 = .ok (.goto (-38), 3) := by decide +kernel
theorem dX6_text_84 : decode cX6_text 84 = .ok (.aload_n 0, 1) := by decide +kernel
theorem dX6_text_85 : decode cX6_text 85 = .ok (.aload_n 0, 1) := by decide +kernel
theorem dX6_text_86 : decode cX6_text 86 = .ok (.getfield 278, 3) := by decide +kernel
theorem dX6_text_89 : decode cX6_text 89 = .ok (.ifCond .ne 7, 3) := by decide +kernel
theorem dX6_text_92 : decode cX6_text 92 = .ok (.iconst 1, 1) := by decide +kernel
theorem dX6_text_93 : decode cX6_text 93 = .ok (.goto 4, 3) := by decide +kernel
theorem dX6_text_96 : decode cX6_text 96 = .ok (.iconst 0, 1) := by decide +kernel
theorem dX6_text_97 : decode cX6_text 97 = .ok (.invokevirtual 295, 3) := by decide +kernel
theorem dX6_text_100 : decode cX6_text 100 = .ok (.aload_n 0, 1) := by decide +kernel
theorem dX6_text_101 : decode cX6_text 101 = .ok (.iconst 0, 1) := by decide +kernel
theorem dX6_text_102 : decode cX6_text 102 = .ok (.putfield 263, 3) := by decide +kernel
theorem dX6_text_105 : decode cX6_text 105 = .ok (.aload_n 0, 1) := by decide +kernel
theorem dX6_text_106 : decode cX6_text 106 = .ok (.getfield 288, 3) := by decide +kernel
theorem dX6_text_109 : decode cX6_text 109 = .ok (.ifCond .eq 10, 3) := by decide +kernel
theorem dX6_text_112 : decode cX6_text 112 = .ok (.iconst (-1), 1) := by decide +kernel
theorem dX6_text_113 : decode cX6_text 113 = .ok (.aload_n 0, 1) := by decide +kernel
theorem dX6_text_114 : decode cX6_text 114 = .ok (.getfield 269, 3) := by decide +kernel
theorem dX6_text_117 : decode cX6_text 117 = .ok (.isub, 1) := by decide +kernel
theorem dX6_text_118 : decode cX6_text 118 = .ok (.ireturn, 1) := by decide +kernel
theorem dX6_text_119 : decode cX6_text 119 = .ok (.iconst 0, 1) := by decide +kernel
theorem dX6_text_120 : decode cX6_text 120 = .ok (.istore_n 1, 1) := by decide +kernel
theorem dX6_text_121 : decode cX6_text 121 = .ok (.iconst 0, 1) := by decide +kernel
theorem dX6_text_122 : decode cX6_text 122 = .ok (.istore_n 2, 1) := by decide +kernel
theorem dX6_text_123 : decode cX6_text 123 = .ok (.iload_n 2, 1) := by decide +kernel
theorem dX6_text_124 : decode cX6_text 124 = .ok (.aload_n 0, 1) := by decide +kernel
theorem dX6_text_125 : decode cX6_text 125 = .ok (.getfield 299, 3) := by decide +kernel
theorem dX6_text_128 : decode cX6_text 128 = .ok (.if_icmp .ge 27, 3) := by decide +kernel
theorem dX6_text_131 : decode cX6_text 131 = .ok (.iload_n 1, 1) := by decide +kernel
theorem dX6_text_132 : decode cX6_text 132 = .ok (.aload_n 0, 1) := by decide +kernel
theorem dX6_text_133 : decode cX6_text 133 = .ok (.iconst 3, 1) := by decide +kernel
theorem dX6_text_134 : decode cX6_text 134 = .ok (.iload_n 2, 1) := by decide +kernel
theorem dX6_text_135 : decode cX6_text 135 = .ok (.imul, 1) := by decide +kernel
theorem dX6_text_136 : decode cX6_text 136 = .ok (.invokevirtual 338, 3) := by decide +kernel
theorem dX6_text_139 : decode cX6_text 139 = .ok (.ifCond .ge 7, 3) := by decide +kernel
theorem dX6_text_142 : decode cX6_text 142 = .ok (.iconst 0, 1) := by decide +kernel
theorem dX6_text_143 : decode cX6_text 143 = .ok (.goto 4, 3) := by decide +kernel
theorem dX6_text_146 : decode cX6_text 146 = .ok (.iconst 1, 1) := by decide +kernel
theorem dX6_text_147 : decode cX6_text 147 = .ok (.iadd, 1) := by decide +kernel
theorem dX6_text_148 : decode cX6_text 148 = .ok (.istore_n 1, 1) := by decide +kernel
theorem dX6_text_149 : decode cX6_text 149 = .ok (.iinc 2 1, 3) := by decide +kernel
theorem dX6_text_152 : decode cX6_text 152 = .ok (.goto (-29), 3) := by decide +kernel
theorem dX6_text_155 : decode cX6_text 155 = .ok (.iload_n 1, 1) := by decide +kernel
theorem dX6_text_156 : decode cX6_text 156 = .ok (.ireturn, 1) := by decide +kernel
theorem dX6_isSpot_0 : decode cX6_isSpot 0 = .ok (.iload_n 0, 1) := by decide +kernel
theorem dX6_isSpot_1 : decode cX6_isSpot 1 = .ok (.iconst 0, 1) := by decide +kernel
theorem dX6_isSpot_2 : decode cX6_isSpot 2 = .ok (.bipush 9, 2) := by decide +kernel
theorem dX6_isSpot_4 : decode cX6_isSpot 4 = .ok (.invokestatic 75, 3) := by decide +kernel
theorem dX6_isSpot_7 : decode cX6_isSpot 7 = .ok (.ireturn, 1) := by decide +kernel
theorem dX6_hold_0 : decode cX6_hold 0 = .ok (.iload_n 1, 1) := by decide +kernel
theorem dX6_hold_1 : decode cX6_hold 1 = .ok (.invokestatic 341, 3) := by decide +kernel
theorem dX6_hold_4 : decode cX6_hold 4 = .ok (.ifCond .eq 16, 3) := by decide +kernel
theorem dX6_hold_7 : decode cX6_hold 7 = .ok (.iload_n 2, 1) := by decide +kernel
theorem dX6_hold_8 : decode cX6_hold 8 = .ok (.iconst (-1), 1) := by decide +kernel
theorem dX6_hold_9 : decode cX6_hold 9 = .ok (.if_icmp .eq 18, 3) := by decide +kernel
theorem dX6_hold_12 : decode cX6_hold 12 = .ok (.aload_n 0, 1) := by decide +kernel
theorem dX6_hold_13 : decode cX6_hold 13 = .ok (.iload_n 2, 1) := by decide +kernel
theorem dX6_hold_14 : decode cX6_hold 14 = .ok (.invokevirtual 110, 3) := by decide +kernel
theorem dX6_hold_17 : decode cX6_hold 17 = .ok (.ifCond .ne 10, 3) := by decide +kernel
theorem dX6_hold_20 : decode cX6_hold 20 = .ok (.aload_n 0, 1) := by decide +kernel
theorem dX6_hold_21 : decode cX6_hold 21 = .ok (.ldc 70, 2) := by decide +kernel
theorem dX6_hold_23 : decode cX6_hold 23 = .ok (.invokevirtual 87, 3) := by decide +kernel
theorem dX6_hold_26 : decode cX6_hold 26 = .ok (.ireturn, 1) := by decide +kernel
theorem dX6_hold_27 : decode cX6_hold 27 = .ok (.aload_n 0, 1) := by decide +kernel
theorem dX6_hold_28 : decode cX6_hold 28 = .ok (.getfield 9, 3) := by decide +kernel
theorem dX6_hold_31 : decode cX6_hold 31 = .ok (.bipush 10, 2) := by decide +kernel
theorem dX6_hold_33 : decode cX6_hold 33 = .ok (.iload_n 1, 1) := by decide +kernel
theorem dX6_hold_34 : decode cX6_hold 34 = .ok (.iadd, 1) := by decide +kernel
theorem dX6_hold_35 : decode cX6_hold 35 = .ok (.iload_n 2, 1) := by decide +kernel
theorem dX6_hold_36 : decode cX6_hold 36 = .ok (.iastore, 1) := by decide +kernel
theorem dX6_hold_37 : decode cX6_hold 37 = .ok (.iconst 1, 1) := by decide +kernel
theorem dX6_hold_38 : decode cX6_hold 38 = .ok (.ireturn, 1) := by decide +kernel
theorem dX6_as_0 : decode cX6_as 0 = .ok (.iload_n 1, 1) := by decide +kernel
theorem dX6_as_1 : decode cX6_as 1 = .ok (.invokestatic 341, 3) := by decide +kernel
theorem dX6_as_4 : decode cX6_as 4 = .ok (.ifCond .eq 10, 3) := by decide +kernel
theorem dX6_as_7 : decode cX6_as 7 = .ok (.iload_n 2, 1) := by decide +kernel
theorem dX6_as_8 : decode cX6_as 8 = .ok (.invokestatic 83, 3) := by decide +kernel
theorem dX6_as_11 : decode cX6_as 11 = .ok (.ifCond .ne 10, 3) := by decide +kernel
theorem dX6_as_14 : decode cX6_as 14 = .ok (.aload_n 0, 1) := by decide +kernel
theorem dX6_as_15 : decode cX6_as 15 = .ok (.ldc 70, 2) := by decide +kernel
theorem dX6_as_17 : decode cX6_as 17 = .ok (.invokevirtual 87, 3) := by decide +kernel
theorem dX6_as_20 : decode cX6_as 20 = .ok (.ireturn, 1) := by decide +kernel
theorem dX6_as_21 : decode cX6_as 21 = .ok (.aload_n 0, 1) := by decide +kernel
theorem dX6_as_22 : decode cX6_as 22 = .ok (.getfield 9, 3) := by decide +kernel
theorem dX6_as_25 : decode cX6_as 25 = .ok (.bipush 10, 2) := by decide +kernel
theorem dX6_as_27 : decode cX6_as 27 = .ok (.iload_n 1, 1) := by decide +kernel
theorem dX6_as_28 : decode cX6_as 28 = .ok (.iadd, 1) := by decide +kernel
theorem dX6_as_29 : decode cX6_as 29 = .ok (.iaload, 1) := by decide +kernel
theorem dX6_as_30 : decode cX6_as 30 = .ok (.istore_n 3, 1) := by decide +kernel
theorem dX6_as_31 : decode cX6_as 31 = .ok (.iload_n 3, 1) := by decide +kernel
theorem dX6_as_32 : decode cX6_as 32 = .ok (.ifCond .ge 10, 3) := by decide +kernel
theorem dX6_as_35 : decode cX6_as 35 = .ok (.aload_n 0, 1) := by decide +kernel
theorem dX6_as_36 : decode cX6_as 36 = .ok (.ldc 234, 2) := by decide +kernel
theorem dX6_as_38 : decode cX6_as 38 = .ok (.invokevirtual 87, 3) := by decide +kernel
theorem dX6_as_41 : decode cX6_as 41 = .ok (.ireturn, 1) := by decide +kernel
theorem dX6_as_42 : decode cX6_as 42 = .ok (.aload_n 0, 1) := by decide +kernel
theorem dX6_as_43 : decode cX6_as 43 = .ok (.iload_n 3, 1) := by decide +kernel
theorem dX6_as_44 : decode cX6_as 44 = .ok (.iconst 0, 1) := by decide +kernel
theorem dX6_as_45 : decode cX6_as 45 = .ok (.invokevirtual 98, 3) := by decide +kernel
theorem dX6_as_48 : decode cX6_as 48 = .ok (.iload_n 2, 1) := by decide +kernel
theorem dX6_as_49 : decode cX6_as 49 = .ok (.invokestatic 101, 3) := by decide +kernel
theorem dX6_as_52 : decode cX6_as 52 = .ok (.ifCond .eq 7, 3) := by decide +kernel
theorem dX6_as_55 : decode cX6_as 55 = .ok (.iload_n 3, 1) := by decide +kernel
theorem dX6_as_56 : decode cX6_as 56 = .ok (.goto 10, 3) := by decide +kernel
theorem dX6_as_59 : decode cX6_as 59 = .ok (.aload_n 0, 1) := by decide +kernel
theorem dX6_as_60 : decode cX6_as 60 = .ok (.ldc_w 344, 3) := by decide +kernel
theorem dX6_as_63 : decode cX6_as 63 = .ok (.invokevirtual 87, 3) := by decide +kernel
theorem dX6_as_66 : decode cX6_as 66 = .ok (.ireturn, 1) := by decide +kernel
theorem dX6_isSheet_0 : decode cX6_isSheet 0 = .ok (.iload_n 0, 1) := by decide +kernel
theorem dX6_isSheet_1 : decode cX6_isSheet 1 = .ok (.iconst 0, 1) := by decide +kernel
theorem dX6_isSheet_2 : decode cX6_isSheet 2 = .ok (.iconst 3, 1) := by decide +kernel
theorem dX6_isSheet_3 : decode cX6_isSheet 3 = .ok (.invokestatic 75, 3) := by decide +kernel
theorem dX6_isSheet_6 : decode cX6_isSheet 6 = .ok (.ireturn, 1) := by decide +kernel
theorem dX6_cutTo_0 : decode cX6_cutTo 0 = .ok (.iload_n 1, 1) := by decide +kernel
theorem dX6_cutTo_1 : decode cX6_cutTo 1 = .ok (.bipush 8, 2) := by decide +kernel
theorem dX6_cutTo_3 : decode cX6_cutTo 3 = .ok (.if_icmp .ne 8, 3) := by decide +kernel
theorem dX6_cutTo_6 : decode cX6_cutTo 6 = .ok (.iload_n 0, 1) := by decide +kernel
theorem dX6_cutTo_7 : decode cX6_cutTo 7 = .ok (.i2b, 1) := by decide +kernel
theorem dX6_cutTo_8 : decode cX6_cutTo 8 = .ok (.goto 15, 3) := by decide +kernel
theorem dX6_cutTo_11 : decode cX6_cutTo 11 = .ok (.iload_n 1, 1) := by decide +kernel
theorem dX6_cutTo_12 : decode cX6_cutTo 12 = .ok (.bipush 16, 2) := by decide +kernel
theorem dX6_cutTo_14 : decode cX6_cutTo 14 = .ok (.if_icmp .ne 8, 3) := by decide +kernel
theorem dX6_cutTo_17 : decode cX6_cutTo 17 = .ok (.iload_n 0, 1) := by decide +kernel
theorem dX6_cutTo_18 : decode cX6_cutTo 18 = .ok (.i2s, 1) := by decide +kernel
theorem dX6_cutTo_19 : decode cX6_cutTo 19 = .ok (.goto 4, 3) := by decide +kernel
theorem dX6_cutTo_22 : decode cX6_cutTo 22 = .ok (.iload_n 0, 1) := by decide +kernel
theorem dX6_cutTo_23 : decode cX6_cutTo 23 = .ok (.ireturn, 1) := by decide +kernel
theorem dX6_sheet_0 : decode cX6_sheet 0 = .ok (.iload_n 1, 1) := by decide +kernel
theorem dX6_sheet_1 : decode cX6_sheet 1 = .ok (.invokestatic 231, 3) := by decide +kernel
theorem dX6_sheet_4 : decode cX6_sheet 4 = .ok (.ifCond .eq 25, 3) := by decide +kernel
theorem dX6_sheet_7 : decode cX6_sheet 7 = .ok (.iload_n 2, 1) := by decide +kernel
theorem dX6_sheet_8 : decode cX6_sheet 8 = .ok (.ifCond .eq 28, 3) := by decide +kernel
theorem dX6_sheet_11 : decode cX6_sheet 11 = .ok (.iload_n 2, 1) := by decide +kernel
theorem dX6_sheet_12 : decode cX6_sheet 12 = .ok (.bipush 8, 2) := by decide +kernel
theorem dX6_sheet_14 : decode cX6_sheet 14 = .ok (.if_icmp .eq 22, 3) := by decide +kernel
theorem dX6_sheet_17 : decode cX6_sheet 17 = .ok (.iload_n 2, 1) := by decide +kernel
theorem dX6_sheet_18 : decode cX6_sheet 18 = .ok (.bipush 16, 2) := by decide +kernel
theorem dX6_sheet_20 : decode cX6_sheet 20 = .ok (.if_icmp .eq 16, 3) := by decide +kernel
theorem dX6_sheet_23 : decode cX6_sheet 23 = .ok (.iload_n 2, 1) := by decide +kernel
theorem dX6_sheet_24 : decode cX6_sheet 24 = .ok (.bipush 32, 2) := by decide +kernel
theorem dX6_sheet_26 : decode cX6_sheet 26 = .ok (.if_icmp .eq 10, 3) := by decide +kernel
theorem dX6_sheet_29 : decode cX6_sheet 29 = .ok (.aload_n 0, 1) := by decide +kernel
theorem dX6_sheet_30 : decode cX6_sheet 30 = .ok (.ldc 70, 2) := by decide +kernel
theorem dX6_sheet_32 : decode cX6_sheet 32 = .ok (.invokevirtual 87, 3) := by decide +kernel
theorem dX6_sheet_35 : decode cX6_sheet 35 = .ok (.ireturn, 1) := by decide +kernel
theorem dX6_sheet_36 : decode cX6_sheet 36 = .ok (.iload_n 3, 1) := by decide +kernel
theorem dX6_sheet_37 : decode cX6_sheet 37 = .ok (.ifCond .ge 10, 3) := by decide +kernel
theorem dX6_sheet_40 : decode cX6_sheet 40 = .ok (.aload_n 0, 1) := by decide +kernel
theorem dX6_sheet_41 : decode cX6_sheet 41 = .ok (.ldc 239, 2) := by decide +kernel
theorem dX6_sheet_43 : decode cX6_sheet 43 = .ok (.invokevirtual 87, 3) := by decide +kernel
theorem dX6_sheet_46 : decode cX6_sheet 46 = .ok (.ireturn, 1) := by decide +kernel
theorem dX6_sheet_47 : decode cX6_sheet 47 = .ok (.iload_n 3, 1) := by decide +kernel
theorem dX6_sheet_48 : decode cX6_sheet 48 = .ok (.bipush 40, 2) := by decide +kernel
theorem dX6_sheet_50 : decode cX6_sheet 50 = .ok (.if_icmp .le 10, 3) := by decide +kernel
theorem dX6_sheet_53 : decode cX6_sheet 53 = .ok (.aload_n 0, 1) := by decide +kernel
theorem dX6_sheet_54 : decode cX6_sheet 54 = .ok (.ldc 70, 2) := by decide +kernel
theorem dX6_sheet_56 : decode cX6_sheet 56 = .ok (.invokevirtual 87, 3) := by decide +kernel
theorem dX6_sheet_59 : decode cX6_sheet 59 = .ok (.ireturn, 1) := by decide +kernel
theorem dX6_sheet_60 : decode cX6_sheet 60 = .ok (.aload_n 0, 1) := by decide +kernel
theorem dX6_sheet_61 : decode cX6_sheet 61 = .ok (.getfield 58, 3) := by decide +kernel
theorem dX6_sheet_64 : decode cX6_sheet 64 = .ok (.iload_n 1, 1) := by decide +kernel
theorem dX6_sheet_65 : decode cX6_sheet 65 = .ok (.iload_n 2, 1) := by decide +kernel
theorem dX6_sheet_66 : decode cX6_sheet 66 = .ok (.iastore, 1) := by decide +kernel
theorem dX6_sheet_67 : decode cX6_sheet 67 = .ok (.aload_n 0, 1) := by decide +kernel
theorem dX6_sheet_68 : decode cX6_sheet 68 = .ok (.getfield 61, 3) := by decide +kernel
theorem dX6_sheet_71 : decode cX6_sheet 71 = .ok (.iload_n 1, 1) := by decide +kernel
theorem dX6_sheet_72 : decode cX6_sheet 72 = .ok (.iload_n 2, 1) := by decide +kernel
theorem dX6_sheet_73 : decode cX6_sheet 73 = .ok (.ifCond .ne 7, 3) := by decide +kernel
theorem dX6_sheet_76 : decode cX6_sheet 76 = .ok (.iconst 0, 1) := by decide +kernel
theorem dX6_sheet_77 : decode cX6_sheet 77 = .ok (.goto 4, 3) := by decide +kernel
theorem dX6_sheet_80 : decode cX6_sheet 80 = .ok (.iload_n 3, 1) := by decide +kernel
theorem dX6_sheet_81 : decode cX6_sheet 81 = .ok (.iastore, 1) := by decide +kernel
theorem dX6_sheet_82 : decode cX6_sheet 82 = .ok (.iconst 0, 1) := by decide +kernel
theorem dX6_sheet_83 : decode cX6_sheet 83 = .ok (.istore 4, 2) := by decide +kernel
theorem dX6_sheet_85 : decode cX6_sheet 85 = .ok (.iload 4, 2) := by decide +kernel
theorem dX6_sheet_87 : decode cX6_sheet 87 = .ok (.bipush 40, 2) := by decide +kernel
theorem dX6_sheet_89 : decode cX6_sheet 89 = .ok (.if_icmp .ge 22, 3) := by decide +kernel
theorem dX6_sheet_92 : decode cX6_sheet 92 = .ok (.aload_n 0, 1) := by decide +kernel
theorem dX6_sheet_93 : decode cX6_sheet 93 = .ok (.getfield 64, 3) := by decide +kernel
theorem dX6_sheet_96 : decode cX6_sheet 96 = .ok (.bipush 40, 2) := by decide +kernel
theorem dX6_sheet_98 : decode cX6_sheet 98 = .ok (.iload_n 1, 1) := by decide +kernel
theorem dX6_sheet_99 : decode cX6_sheet 99 = .ok (.imul, 1) := by decide +kernel
theorem dX6_sheet_100 : decode cX6_sheet 100 = .ok (.iload 4, 2) := by decide +kernel
theorem dX6_sheet_102 : decode cX6_sheet 102 = .ok (.iadd, 1) := by decide +kernel
theorem dX6_sheet_103 : decode cX6_sheet 103 = .ok (.iconst 0, 1) := by decide +kernel
theorem dX6_sheet_104 : decode cX6_sheet 104 = .ok (.iastore, 1) := by decide +kernel
theorem dX6_sheet_105 : decode cX6_sheet 105 = .ok (.iinc 4 1, 3) := by decide +kernel
theorem dX6_sheet_108 : decode cX6_sheet 108 = .ok (.goto (-23), 3) := by decide +kernel
theorem dX6_sheet_111 : decode cX6_sheet 111 = .ok (.aload_n 0, 1) := by decide +kernel
theorem dX6_sheet_112 : decode cX6_sheet 112 = .ok (.getfield 61, 3) := by decide +kernel
theorem dX6_sheet_115 : decode cX6_sheet 115 = .ok (.iload_n 1, 1) := by decide +kernel
theorem dX6_sheet_116 : decode cX6_sheet 116 = .ok (.iaload, 1) := by decide +kernel
theorem dX6_sheet_117 : decode cX6_sheet 117 = .ok (.ireturn, 1) := by decide +kernel
theorem dX6_write_0 : decode cX6_write 0 = .ok (.iload_n 1, 1) := by decide +kernel
theorem dX6_write_1 : decode cX6_write 1 = .ok (.invokestatic 231, 3) := by decide +kernel
theorem dX6_write_4 : decode cX6_write 4 = .ok (.ifCond .ne 10, 3) := by decide +kernel
theorem dX6_write_7 : decode cX6_write 7 = .ok (.aload_n 0, 1) := by decide +kernel
theorem dX6_write_8 : decode cX6_write 8 = .ok (.ldc 70, 2) := by decide +kernel
theorem dX6_write_10 : decode cX6_write 10 = .ok (.invokevirtual 87, 3) := by decide +kernel
theorem dX6_write_13 : decode cX6_write 13 = .ok (.ireturn, 1) := by decide +kernel
theorem dX6_write_14 : decode cX6_write 14 = .ok (.aload_n 0, 1) := by decide +kernel
theorem dX6_write_15 : decode cX6_write 15 = .ok (.getfield 58, 3) := by decide +kernel
theorem dX6_write_18 : decode cX6_write 18 = .ok (.iload_n 1, 1) := by decide +kernel
theorem dX6_write_19 : decode cX6_write 19 = .ok (.iaload, 1) := by decide +kernel
theorem dX6_write_20 : decode cX6_write 20 = .ok (.ifCond .ne 10, 3) := by decide +kernel
theorem dX6_write_23 : decode cX6_write 23 = .ok (.aload_n 0, 1) := by decide +kernel
theorem dX6_write_24 : decode cX6_write 24 = .ok (.ldc 234, 2) := by decide +kernel
theorem dX6_write_26 : decode cX6_write 26 = .ok (.invokevirtual 87, 3) := by decide +kernel
theorem dX6_write_29 : decode cX6_write 29 = .ok (.ireturn, 1) := by decide +kernel
theorem dX6_write_30 : decode cX6_write 30 = .ok (.iload_n 2, 1) := by decide +kernel
theorem dX6_write_31 : decode cX6_write 31 = .ok (.iconst 0, 1) := by decide +kernel
theorem dX6_write_32 : decode cX6_write 32 = .ok (.aload_n 0, 1) := by decide +kernel
theorem dX6_write_33 : decode cX6_write 33 = .ok (.getfield 61, 3) := by decide +kernel
theorem dX6_write_36 : decode cX6_write 36 = .ok (.iload_n 1, 1) := by decide +kernel
theorem dX6_write_37 : decode cX6_write 37 = .ok (.iaload, 1) := by decide +kernel
theorem dX6_write_38 : decode cX6_write 38 = .ok (.iconst 1, 1) := by decide +kernel
theorem dX6_write_39 : decode cX6_write 39 = .ok (.isub, 1) := by decide +kernel
theorem dX6_write_40 : decode cX6_write 40 = .ok (.invokestatic 75, 3) := by decide +kernel
theorem dX6_write_43 : decode cX6_write 43 = .ok (.ifCond .ne 10, 3) := by decide +kernel
theorem dX6_write_46 : decode cX6_write 46 = .ok (.aload_n 0, 1) := by decide +kernel
theorem dX6_write_47 : decode cX6_write 47 = .ok (.ldc 70, 2) := by decide +kernel
theorem dX6_write_49 : decode cX6_write 49 = .ok (.invokevirtual 87, 3) := by decide +kernel
theorem dX6_write_52 : decode cX6_write 52 = .ok (.ireturn, 1) := by decide +kernel
theorem dX6_write_53 : decode cX6_write 53 = .ok (.aload_n 0, 1) := by decide +kernel
theorem dX6_write_54 : decode cX6_write 54 = .ok (.getfield 64, 3) := by decide +kernel
theorem dX6_write_57 : decode cX6_write 57 = .ok (.bipush 40, 2) := by decide +kernel
theorem dX6_write_59 : decode cX6_write 59 = .ok (.iload_n 1, 1) := by decide +kernel
theorem dX6_write_60 : decode cX6_write 60 = .ok (.imul, 1) := by decide +kernel
theorem dX6_write_61 : decode cX6_write 61 = .ok (.iload_n 2, 1) := by decide +kernel
theorem dX6_write_62 : decode cX6_write 62 = .ok (.iadd, 1) := by decide +kernel
theorem dX6_write_63 : decode cX6_write 63 = .ok (.iload_n 3, 1) := by decide +kernel
theorem dX6_write_64 : decode cX6_write 64 = .ok (.aload_n 0, 1) := by decide +kernel
theorem dX6_write_65 : decode cX6_write 65 = .ok (.getfield 58, 3) := by decide +kernel
theorem dX6_write_68 : decode cX6_write 68 = .ok (.iload_n 1, 1) := by decide +kernel
theorem dX6_write_69 : decode cX6_write 69 = .ok (.iaload, 1) := by decide +kernel
theorem dX6_write_70 : decode cX6_write 70 = .ok (.invokestatic 345, 3) := by decide +kernel
theorem dX6_write_73 : decode cX6_write 73 = .ok (.iastore, 1) := by decide +kernel
theorem dX6_write_74 : decode cX6_write 74 = .ok (.iconst 1, 1) := by decide +kernel
theorem dX6_write_75 : decode cX6_write 75 = .ok (.ireturn, 1) := by decide +kernel
theorem dX6_copy_0 : decode cX6_copy 0 = .ok (.iload_n 1, 1) := by decide +kernel
theorem dX6_copy_1 : decode cX6_copy 1 = .ok (.invokestatic 231, 3) := by decide +kernel
theorem dX6_copy_4 : decode cX6_copy 4 = .ok (.ifCond .eq 10, 3) := by decide +kernel
theorem dX6_copy_7 : decode cX6_copy 7 = .ok (.iload_n 3, 1) := by decide +kernel
theorem dX6_copy_8 : decode cX6_copy 8 = .ok (.invokestatic 231, 3) := by decide +kernel
theorem dX6_copy_11 : decode cX6_copy 11 = .ok (.ifCond .ne 10, 3) := by decide +kernel
theorem dX6_copy_14 : decode cX6_copy 14 = .ok (.aload_n 0, 1) := by decide +kernel
theorem dX6_copy_15 : decode cX6_copy 15 = .ok (.ldc 70, 2) := by decide +kernel
theorem dX6_copy_17 : decode cX6_copy 17 = .ok (.invokevirtual 87, 3) := by decide +kernel
theorem dX6_copy_20 : decode cX6_copy 20 = .ok (.ireturn, 1) := by decide +kernel
theorem dX6_copy_21 : decode cX6_copy 21 = .ok (.aload_n 0, 1) := by decide +kernel
theorem dX6_copy_22 : decode cX6_copy 22 = .ok (.getfield 58, 3) := by decide +kernel
theorem dX6_copy_25 : decode cX6_copy 25 = .ok (.iload_n 1, 1) := by decide +kernel
theorem dX6_copy_26 : decode cX6_copy 26 = .ok (.iaload, 1) := by decide +kernel
theorem dX6_copy_27 : decode cX6_copy 27 = .ok (.ifCond .eq 12, 3) := by decide +kernel
theorem dX6_copy_30 : decode cX6_copy 30 = .ok (.aload_n 0, 1) := by decide +kernel
theorem dX6_copy_31 : decode cX6_copy 31 = .ok (.getfield 58, 3) := by decide +kernel
theorem dX6_copy_34 : decode cX6_copy 34 = .ok (.iload_n 3, 1) := by decide +kernel
theorem dX6_copy_35 : decode cX6_copy 35 = .ok (.iaload, 1) := by decide +kernel
theorem dX6_copy_36 : decode cX6_copy 36 = .ok (.ifCond .ne 10, 3) := by decide +kernel
theorem dX6_copy_39 : decode cX6_copy 39 = .ok (.aload_n 0, 1) := by decide +kernel
theorem dX6_copy_40 : decode cX6_copy 40 = .ok (.ldc 234, 2) := by decide +kernel
theorem dX6_copy_42 : decode cX6_copy 42 = .ok (.invokevirtual 87, 3) := by decide +kernel
theorem dX6_copy_45 : decode cX6_copy 45 = .ok (.ireturn, 1) := by decide +kernel
theorem dX6_copy_46 : decode cX6_copy 46 = .ok (.aload_n 0, 1) := by decide +kernel
theorem dX6_copy_47 : decode cX6_copy 47 = .ok (.getfield 58, 3) := by decide +kernel
theorem dX6_copy_50 : decode cX6_copy 50 = .ok (.iload_n 1, 1) := by decide +kernel
theorem dX6_copy_51 : decode cX6_copy 51 = .ok (.iaload, 1) := by decide +kernel
theorem dX6_copy_52 : decode cX6_copy 52 = .ok (.aload_n 0, 1) := by decide +kernel
theorem dX6_copy_53 : decode cX6_copy 53 = .ok (.getfield 58, 3) := by decide +kernel
theorem dX6_copy_56 : decode cX6_copy 56 = .ok (.iload_n 3, 1) := by decide +kernel
theorem dX6_copy_57 : decode cX6_copy 57 = .ok (.iaload, 1) := by decide +kernel
theorem dX6_copy_58 : decode cX6_copy 58 = .ok (.if_icmp .eq 11, 3) := by decide +kernel
theorem dX6_copy_61 : decode cX6_copy 61 = .ok (.aload_n 0, 1) := by decide +kernel
theorem dX6_copy_62 : decode cX6_copy 62 = .ok (.ldc_w 344, 3) := by decide +kernel
theorem dX6_copy_65 : decode cX6_copy 65 = .ok (.invokevirtual 87, 3) := by decide +kernel
theorem dX6_copy_68 : decode cX6_copy 68 = .ok (.ireturn, 1) := by decide +kernel
theorem dX6_copy_69 : decode cX6_copy 69 = .ok (.iload_n 2, 1) := by decide +kernel
theorem dX6_copy_70 : decode cX6_copy 70 = .ok (.ifCond .lt 48, 3) := by decide +kernel
theorem dX6_copy_73 : decode cX6_copy 73 = .ok (.iload 4, 2) := by decide +kernel
theorem dX6_copy_75 : decode cX6_copy 75 = .ok (.ifCond .lt 43, 3) := by decide +kernel
theorem dX6_copy_78 : decode cX6_copy 78 = .ok (.iload 5, 2) := by decide +kernel
theorem dX6_copy_80 : decode cX6_copy 80 = .ok (.ifCond .lt 38, 3) := by decide +kernel
theorem dX6_copy_83 : decode cX6_copy 83 = .ok (.iload_n 2, 1) := by decide +kernel
theorem dX6_copy_84 : decode cX6_copy 84 = .ok (.i2l, 1) := by decide +kernel
theorem dX6_copy_85 : decode cX6_copy 85 = .ok (.iload 5, 2) := by decide +kernel
theorem dX6_copy_87 : decode cX6_copy 87 = .ok (.i2l, 1) := by decide +kernel
theorem dX6_copy_88 : decode cX6_copy 88 = .ok (.ladd, 1) := by decide +kernel
theorem dX6_copy_89 : decode cX6_copy 89 = .ok (.aload_n 0, 1) := by decide +kernel
theorem dX6_copy_90 : decode cX6_copy 90 = .ok (.getfield 61, 3) := by decide +kernel
theorem dX6_copy_93 : decode cX6_copy 93 = .ok (.iload_n 1, 1) := by decide +kernel
theorem dX6_copy_94 : decode cX6_copy 94 = .ok (.iaload, 1) := by decide +kernel
theorem dX6_copy_95 : decode cX6_copy 95 = .ok (.i2l, 1) := by decide +kernel
theorem dX6_copy_96 : decode cX6_copy 96 = .ok (.lcmp, 1) := by decide +kernel
theorem dX6_copy_97 : decode cX6_copy 97 = .ok (.ifCond .gt 21, 3) := by decide +kernel
theorem dX6_copy_100 : decode cX6_copy 100 = .ok (.iload 4, 2) := by decide +kernel
theorem dX6_copy_102 : decode cX6_copy 102 = .ok (.i2l, 1) := by decide +kernel
theorem dX6_copy_103 : decode cX6_copy 103 = .ok (.iload 5, 2) := by decide +kernel
theorem dX6_copy_105 : decode cX6_copy 105 = .ok (.i2l, 1) := by decide +kernel
theorem dX6_copy_106 : decode cX6_copy 106 = .ok (.ladd, 1) := by decide +kernel
theorem dX6_copy_107 : decode cX6_copy 107 = .ok (.aload_n 0, 1) := by decide +kernel
theorem dX6_copy_108 : decode cX6_copy 108 = .ok (.getfield 61, 3) := by decide +kernel
theorem dX6_copy_111 : decode cX6_copy 111 = .ok (.iload_n 3, 1) := by decide +kernel
theorem dX6_copy_112 : decode cX6_copy 112 = .ok (.iaload, 1) := by decide +kernel
theorem dX6_copy_113 : decode cX6_copy 113 = .ok (.i2l, 1) := by decide +kernel
theorem dX6_copy_114 : decode cX6_copy 114 = .ok (.lcmp, 1) := by decide +kernel
theorem dX6_copy_115 : decode cX6_copy 115 = .ok (.ifCond .le 10, 3) := by decide +kernel
theorem dX6_copy_118 : decode cX6_copy 118 = .ok (.aload_n 0, 1) := by decide +kernel
theorem dX6_copy_119 : decode cX6_copy 119 = .ok (.ldc 70, 2) := by decide +kernel
theorem dX6_copy_121 : decode cX6_copy 121 = .ok (.invokevirtual 87, 3) := by decide +kernel
theorem dX6_copy_124 : decode cX6_copy 124 = .ok (.ireturn, 1) := by decide +kernel
theorem dX6_copy_125 : decode cX6_copy 125 = .ok (.iconst 0, 1) := by decide +kernel
theorem dX6_copy_126 : decode cX6_copy 126 = .ok (.istore 6, 2) := by decide +kernel
theorem dX6_copy_128 : decode cX6_copy 128 = .ok (.iload 6, 2) := by decide +kernel
theorem dX6_copy_130 : decode cX6_copy 130 = .ok (.iload 5, 2) := by decide +kernel
theorem dX6_copy_132 : decode cX6_copy 132 = .ok (.if_icmp .ge 30, 3) := by decide +kernel
theorem dX6_copy_135 : decode cX6_copy 135 = .ok (.aload_n 0, 1) := by decide +kernel
theorem dX6_copy_136 : decode cX6_copy 136 = .ok (.getfield 67, 3) := by decide +kernel
theorem dX6_copy_139 : decode cX6_copy 139 = .ok (.iload 6, 2) := by decide +kernel
theorem dX6_copy_141 : decode cX6_copy 141 = .ok (.aload_n 0, 1) := by decide +kernel
theorem dX6_copy_142 : decode cX6_copy 142 = .ok (.getfield 64, 3) := by decide +kernel
theorem dX6_copy_145 : decode cX6_copy 145 = .ok (.bipush 40, 2) := by decide +kernel
theorem dX6_copy_147 : decode cX6_copy 147 = .ok (.iload_n 1, 1) := by decide +kernel
theorem dX6_copy_148 : decode cX6_copy 148 = .ok (.imul, 1) := by decide +kernel
theorem dX6_copy_149 : decode cX6_copy 149 = .ok (.iload_n 2, 1) := by decide +kernel
theorem dX6_copy_150 : decode cX6_copy 150 = .ok (.iadd, 1) := by decide +kernel
theorem dX6_copy_151 : decode cX6_copy 151 = .ok (.iload 6, 2) := by decide +kernel
theorem dX6_copy_153 : decode cX6_copy 153 = .ok (.iadd, 1) := by decide +kernel
theorem dX6_copy_154 : decode cX6_copy 154 = .ok (.iaload, 1) := by decide +kernel
theorem dX6_copy_155 : decode cX6_copy 155 = .ok (.iastore, 1) := by decide +kernel
theorem dX6_copy_156 : decode cX6_copy 156 = .ok (.iinc 6 1, 3) := by decide +kernel
theorem dX6_copy_159 : decode cX6_copy 159 = .ok (.goto (-31), 3) := by decide +kernel
theorem dX6_copy_162 : decode cX6_copy 162 = .ok (.iconst 0, 1) := by decide +kernel
theorem dX6_copy_163 : decode cX6_copy 163 = .ok (.istore 6, 2) := by decide +kernel
theorem dX6_copy_165 : decode cX6_copy 165 = .ok (.iload 6, 2) := by decide +kernel
theorem dX6_copy_167 : decode cX6_copy 167 = .ok (.iload 5, 2) := by decide +kernel
theorem dX6_copy_169 : decode cX6_copy 169 = .ok (.if_icmp .ge 31, 3) := by decide +kernel
theorem dX6_copy_172 : decode cX6_copy 172 = .ok (.aload_n 0, 1) := by decide +kernel
theorem dX6_copy_173 : decode cX6_copy 173 = .ok (.getfield 64, 3) := by decide +kernel
theorem dX6_copy_176 : decode cX6_copy 176 = .ok (.bipush 40, 2) := by decide +kernel
theorem dX6_copy_178 : decode cX6_copy 178 = .ok (.iload_n 3, 1) := by decide +kernel
theorem dX6_copy_179 : decode cX6_copy 179 = .ok (.imul, 1) := by decide +kernel
theorem dX6_copy_180 : decode cX6_copy 180 = .ok (.iload 4, 2) := by decide +kernel
theorem dX6_copy_182 : decode cX6_copy 182 = .ok (.iadd, 1) := by decide +kernel
theorem dX6_copy_183 : decode cX6_copy 183 = .ok (.iload 6, 2) := by decide +kernel
theorem dX6_copy_185 : decode cX6_copy 185 = .ok (.iadd, 1) := by decide +kernel
theorem dX6_copy_186 : decode cX6_copy 186 = .ok (.aload_n 0, 1) := by decide +kernel
theorem dX6_copy_187 : decode cX6_copy 187 = .ok (.getfield 67, 3) := by decide +kernel
theorem dX6_copy_190 : decode cX6_copy 190 = .ok (.iload 6, 2) := by decide +kernel
theorem dX6_copy_192 : decode cX6_copy 192 = .ok (.iaload, 1) := by decide +kernel
theorem dX6_copy_193 : decode cX6_copy 193 = .ok (.iastore, 1) := by decide +kernel
theorem dX6_copy_194 : decode cX6_copy 194 = .ok (.iinc 6 1, 3) := by decide +kernel
theorem dX6_copy_197 : decode cX6_copy 197 = .ok (.goto (-32), 3) := by decide +kernel
theorem dX6_copy_200 : decode cX6_copy 200 = .ok (.iload 5, 2) := by decide +kernel
theorem dX6_copy_202 : decode cX6_copy 202 = .ok (.ireturn, 1) := by decide +kernel
theorem dX6_load_0 : decode cX6_load 0 = .ok (.iload_n 1, 1) := by decide +kernel
theorem dX6_load_1 : decode cX6_load 1 = .ok (.invokestatic 231, 3) := by decide +kernel
theorem dX6_load_4 : decode cX6_load 4 = .ok (.ifCond .ne 10, 3) := by decide +kernel
theorem dX6_load_7 : decode cX6_load 7 = .ok (.aload_n 0, 1) := by decide +kernel
theorem dX6_load_8 : decode cX6_load 8 = .ok (.ldc 70, 2) := by decide +kernel
theorem dX6_load_10 : decode cX6_load 10 = .ok (.invokevirtual 87, 3) := by decide +kernel
theorem dX6_load_13 : decode cX6_load 13 = .ok (.ireturn, 1) := by decide +kernel
theorem dX6_load_14 : decode cX6_load 14 = .ok (.aload_n 0, 1) := by decide +kernel
theorem dX6_load_15 : decode cX6_load 15 = .ok (.getfield 58, 3) := by decide +kernel
theorem dX6_load_18 : decode cX6_load 18 = .ok (.iload_n 1, 1) := by decide +kernel
theorem dX6_load_19 : decode cX6_load 19 = .ok (.iaload, 1) := by decide +kernel
theorem dX6_load_20 : decode cX6_load 20 = .ok (.ifCond .ne 10, 3) := by decide +kernel
theorem dX6_load_23 : decode cX6_load 23 = .ok (.aload_n 0, 1) := by decide +kernel
theorem dX6_load_24 : decode cX6_load 24 = .ok (.ldc 234, 2) := by decide +kernel
theorem dX6_load_26 : decode cX6_load 26 = .ok (.invokevirtual 87, 3) := by decide +kernel
theorem dX6_load_29 : decode cX6_load 29 = .ok (.ireturn, 1) := by decide +kernel
theorem dX6_load_30 : decode cX6_load 30 = .ok (.iconst 0, 1) := by decide +kernel
theorem dX6_load_31 : decode cX6_load 31 = .ok (.istore_n 2, 1) := by decide +kernel
theorem dX6_load_32 : decode cX6_load 32 = .ok (.iload_n 2, 1) := by decide +kernel
theorem dX6_load_33 : decode cX6_load 33 = .ok (.aload_n 0, 1) := by decide +kernel
theorem dX6_load_34 : decode cX6_load 34 = .ok (.getfield 61, 3) := by decide +kernel
theorem dX6_load_37 : decode cX6_load 37 = .ok (.iload_n 1, 1) := by decide +kernel
theorem dX6_load_38 : decode cX6_load 38 = .ok (.iaload, 1) := by decide +kernel
theorem dX6_load_39 : decode cX6_load 39 = .ok (.if_icmp .ge 58, 3) := by decide +kernel
theorem dX6_load_42 : decode cX6_load 42 = .ok (.aload_n 0, 1) := by decide +kernel
theorem dX6_load_43 : decode cX6_load 43 = .ok (.iload_n 2, 1) := by decide +kernel
theorem dX6_load_44 : decode cX6_load 44 = .ok (.invokevirtual 110, 3) := by decide +kernel
theorem dX6_load_47 : decode cX6_load 47 = .ok (.ifCond .eq 50, 3) := by decide +kernel
theorem dX6_load_50 : decode cX6_load 50 = .ok (.aload_n 0, 1) := by decide +kernel
theorem dX6_load_51 : decode cX6_load 51 = .ok (.getfield 64, 3) := by decide +kernel
theorem dX6_load_54 : decode cX6_load 54 = .ok (.bipush 40, 2) := by decide +kernel
theorem dX6_load_56 : decode cX6_load 56 = .ok (.iload_n 1, 1) := by decide +kernel
theorem dX6_load_57 : decode cX6_load 57 = .ok (.imul, 1) := by decide +kernel
theorem dX6_load_58 : decode cX6_load 58 = .ok (.iload_n 2, 1) := by decide +kernel
theorem dX6_load_59 : decode cX6_load 59 = .ok (.iadd, 1) := by decide +kernel
theorem dX6_load_60 : decode cX6_load 60 = .ok (.iaload, 1) := by decide +kernel
theorem dX6_load_61 : decode cX6_load 61 = .ok (.iconst 1, 1) := by decide +kernel
theorem dX6_load_62 : decode cX6_load 62 = .ok (.bipush 9, 2) := by decide +kernel
theorem dX6_load_64 : decode cX6_load 64 = .ok (.invokestatic 75, 3) := by decide +kernel
theorem dX6_load_67 : decode cX6_load 67 = .ok (.ifCond .eq 30, 3) := by decide +kernel
theorem dX6_load_70 : decode cX6_load 70 = .ok (.aload_n 0, 1) := by decide +kernel
theorem dX6_load_71 : decode cX6_load 71 = .ok (.getfield 9, 3) := by decide +kernel
theorem dX6_load_74 : decode cX6_load 74 = .ok (.iload_n 2, 1) := by decide +kernel
theorem dX6_load_75 : decode cX6_load 75 = .ok (.iconst 1, 1) := by decide +kernel
theorem dX6_load_76 : decode cX6_load 76 = .ok (.invokestatic 79, 3) := by decide +kernel
theorem dX6_load_79 : decode cX6_load 79 = .ok (.aload_n 0, 1) := by decide +kernel
theorem dX6_load_80 : decode cX6_load 80 = .ok (.getfield 64, 3) := by decide +kernel
theorem dX6_load_83 : decode cX6_load 83 = .ok (.bipush 40, 2) := by decide +kernel
theorem dX6_load_85 : decode cX6_load 85 = .ok (.iload_n 1, 1) := by decide +kernel
theorem dX6_load_86 : decode cX6_load 86 = .ok (.imul, 1) := by decide +kernel
theorem dX6_load_87 : decode cX6_load 87 = .ok (.iload_n 2, 1) := by decide +kernel
theorem dX6_load_88 : decode cX6_load 88 = .ok (.iadd, 1) := by decide +kernel
theorem dX6_load_89 : decode cX6_load 89 = .ok (.iaload, 1) := by decide +kernel
theorem dX6_load_90 : decode cX6_load 90 = .ok (.iastore, 1) := by decide +kernel
theorem dX6_load_91 : decode cX6_load 91 = .ok (.iinc 2 1, 3) := by decide +kernel
theorem dX6_load_94 : decode cX6_load 94 = .ok (.goto (-62), 3) := by decide +kernel
theorem dX6_load_97 : decode cX6_load 97 = .ok (.iload_n 2, 1) := by decide +kernel
theorem dX6_load_98 : decode cX6_load 98 = .ok (.ireturn, 1) := by decide +kernel
theorem dX6_judge_0 : decode cX6_judge 0 = .ok (.iload_n 1, 1) := by decide +kernel
theorem dX6_judge_1 : decode cX6_judge 1 = .ok (.invokestatic 231, 3) := by decide +kernel
theorem dX6_judge_4 : decode cX6_judge 4 = .ok (.ifCond .ne 10, 3) := by decide +kernel
theorem dX6_judge_7 : decode cX6_judge 7 = .ok (.aload_n 0, 1) := by decide +kernel
theorem dX6_judge_8 : decode cX6_judge 8 = .ok (.ldc 70, 2) := by decide +kernel
theorem dX6_judge_10 : decode cX6_judge 10 = .ok (.invokevirtual 87, 3) := by decide +kernel
theorem dX6_judge_13 : decode cX6_judge 13 = .ok (.ireturn, 1) := by decide +kernel
theorem dX6_judge_14 : decode cX6_judge 14 = .ok (.aload_n 0, 1) := by decide +kernel
theorem dX6_judge_15 : decode cX6_judge 15 = .ok (.getfield 58, 3) := by decide +kernel
theorem dX6_judge_18 : decode cX6_judge 18 = .ok (.iload_n 1, 1) := by decide +kernel
theorem dX6_judge_19 : decode cX6_judge 19 = .ok (.iaload, 1) := by decide +kernel
theorem dX6_judge_20 : decode cX6_judge 20 = .ok (.ifCond .ne 10, 3) := by decide +kernel
theorem dX6_judge_23 : decode cX6_judge 23 = .ok (.aload_n 0, 1) := by decide +kernel
theorem dX6_judge_24 : decode cX6_judge 24 = .ok (.ldc 234, 2) := by decide +kernel
theorem dX6_judge_26 : decode cX6_judge 26 = .ok (.invokevirtual 87, 3) := by decide +kernel
theorem dX6_judge_29 : decode cX6_judge 29 = .ok (.ireturn, 1) := by decide +kernel
theorem dX6_judge_30 : decode cX6_judge 30 = .ok (.iconst 0, 1) := by decide +kernel
theorem dX6_judge_31 : decode cX6_judge 31 = .ok (.istore_n 2, 1) := by decide +kernel
theorem dX6_judge_32 : decode cX6_judge 32 = .ok (.iconst 1, 1) := by decide +kernel
theorem dX6_judge_33 : decode cX6_judge 33 = .ok (.istore_n 3, 1) := by decide +kernel
theorem dX6_judge_34 : decode cX6_judge 34 = .ok (.iload_n 2, 1) := by decide +kernel
theorem dX6_judge_35 : decode cX6_judge 35 = .ok (.aload_n 0, 1) := by decide +kernel
theorem dX6_judge_36 : decode cX6_judge 36 = .ok (.getfield 61, 3) := by decide +kernel
theorem dX6_judge_39 : decode cX6_judge 39 = .ok (.iload_n 1, 1) := by decide +kernel
theorem dX6_judge_40 : decode cX6_judge 40 = .ok (.iaload, 1) := by decide +kernel
theorem dX6_judge_41 : decode cX6_judge 41 = .ok (.if_icmp .ge 119, 3) := by decide +kernel
theorem dX6_judge_44 : decode cX6_judge 44 = .ok (.iload_n 3, 1) := by decide +kernel
theorem dX6_judge_45 : decode cX6_judge 45 = .ok (.ifCond .eq 115, 3) := by decide +kernel
theorem dX6_judge_48 : decode cX6_judge 48 = .ok (.aload_n 0, 1) := by decide +kernel
theorem dX6_judge_49 : decode cX6_judge 49 = .ok (.getfield 64, 3) := by decide +kernel
theorem dX6_judge_52 : decode cX6_judge 52 = .ok (.bipush 40, 2) := by decide +kernel
theorem dX6_judge_54 : decode cX6_judge 54 = .ok (.iload_n 1, 1) := by decide +kernel
theorem dX6_judge_55 : decode cX6_judge 55 = .ok (.imul, 1) := by decide +kernel
theorem dX6_judge_56 : decode cX6_judge 56 = .ok (.iload_n 2, 1) := by decide +kernel
theorem dX6_judge_57 : decode cX6_judge 57 = .ok (.iadd, 1) := by decide +kernel
theorem dX6_judge_58 : decode cX6_judge 58 = .ok (.iaload, 1) := by decide +kernel
theorem dX6_judge_59 : decode cX6_judge 59 = .ok (.istore 4, 2) := by decide +kernel
theorem dX6_judge_61 : decode cX6_judge 61 = .ok (.iload_n 2, 1) := by decide +kernel
theorem dX6_judge_62 : decode cX6_judge 62 = .ok (.iconst 1, 1) := by decide +kernel
theorem dX6_judge_63 : decode cX6_judge 63 = .ok (.iadd, 1) := by decide +kernel
theorem dX6_judge_64 : decode cX6_judge 64 = .ok (.aload_n 0, 1) := by decide +kernel
theorem dX6_judge_65 : decode cX6_judge 65 = .ok (.getfield 61, 3) := by decide +kernel
theorem dX6_judge_68 : decode cX6_judge 68 = .ok (.iload_n 1, 1) := by decide +kernel
theorem dX6_judge_69 : decode cX6_judge 69 = .ok (.iaload, 1) := by decide +kernel
theorem dX6_judge_70 : decode cX6_judge 70 = .ok (.if_icmp .ge 19, 3) := by decide +kernel
theorem dX6_judge_73 : decode cX6_judge 73 = .ok (.aload_n 0, 1) := by decide +kernel
theorem dX6_judge_74 : decode cX6_judge 74 = .ok (.getfield 64, 3) := by decide +kernel
theorem dX6_judge_77 : decode cX6_judge 77 = .ok (.bipush 40, 2) := by decide +kernel
theorem dX6_judge_79 : decode cX6_judge 79 = .ok (.iload_n 1, 1) := by decide +kernel
theorem dX6_judge_80 : decode cX6_judge 80 = .ok (.imul, 1) := by decide +kernel
theorem dX6_judge_81 : decode cX6_judge 81 = .ok (.iload_n 2, 1) := by decide +kernel
theorem dX6_judge_82 : decode cX6_judge 82 = .ok (.iadd, 1) := by decide +kernel
theorem dX6_judge_83 : decode cX6_judge 83 = .ok (.iconst 1, 1) := by decide +kernel
theorem dX6_judge_84 : decode cX6_judge 84 = .ok (.iadd, 1) := by decide +kernel
theorem dX6_judge_85 : decode cX6_judge 85 = .ok (.iaload, 1) := by decide +kernel
theorem dX6_judge_86 : decode cX6_judge 86 = .ok (.goto 4, 3) := by decide +kernel
theorem dX6_judge_89 : decode cX6_judge 89 = .ok (.iconst (-1), 1) := by decide +kernel
theorem dX6_judge_90 : decode cX6_judge 90 = .ok (.istore 5, 2) := by decide +kernel
theorem dX6_judge_92 : decode cX6_judge 92 = .ok (.iload_n 2, 1) := by decide +kernel
theorem dX6_judge_93 : decode cX6_judge 93 = .ok (.iconst 1, 1) := by decide +kernel
theorem dX6_judge_94 : decode cX6_judge 94 = .ok (.iadd, 1) := by decide +kernel
theorem dX6_judge_95 : decode cX6_judge 95 = .ok (.aload_n 0, 1) := by decide +kernel
theorem dX6_judge_96 : decode cX6_judge 96 = .ok (.getfield 61, 3) := by decide +kernel
theorem dX6_judge_99 : decode cX6_judge 99 = .ok (.iload_n 1, 1) := by decide +kernel
theorem dX6_judge_100 : decode cX6_judge 100 = .ok (.iaload, 1) := by decide +kernel
theorem dX6_judge_101 : decode cX6_judge 101 = .ok (.if_icmp .ge 42, 3) := by decide +kernel
theorem dX6_judge_104 : decode cX6_judge 104 = .ok (.aload_n 0, 1) := by decide +kernel
theorem dX6_judge_105 : decode cX6_judge 105 = .ok (.iload_n 2, 1) := by decide +kernel
theorem dX6_judge_106 : decode cX6_judge 106 = .ok (.iconst 2, 1) := by decide +kernel
theorem dX6_judge_107 : decode cX6_judge 107 = .ok (.idiv, 1) := by decide +kernel
theorem dX6_judge_108 : decode cX6_judge 108 = .ok (.invokevirtual 143, 3) := by decide +kernel
theorem dX6_judge_111 : decode cX6_judge 111 = .ok (.ifCond .eq 32, 3) := by decide +kernel
theorem dX6_judge_114 : decode cX6_judge 114 = .ok (.aload_n 0, 1) := by decide +kernel
theorem dX6_judge_115 : decode cX6_judge 115 = .ok (.iload 4, 2) := by decide +kernel
theorem dX6_judge_117 : decode cX6_judge 117 = .ok (.iload 5, 2) := by decide +kernel
theorem dX6_judge_119 : decode cX6_judge 119 = .ok (.invokevirtual 175, 3) := by decide +kernel
theorem dX6_judge_122 : decode cX6_judge 122 = .ok (.ifCond .eq 21, 3) := by decide +kernel
theorem dX6_judge_125 : decode cX6_judge 125 = .ok (.aload_n 0, 1) := by decide +kernel
theorem dX6_judge_126 : decode cX6_judge 126 = .ok (.iload 4, 2) := by decide +kernel
theorem dX6_judge_128 : decode cX6_judge 128 = .ok (.iload 5, 2) := by decide +kernel
theorem dX6_judge_130 : decode cX6_judge 130 = .ok (.iload_n 2, 1) := by decide +kernel
theorem dX6_judge_131 : decode cX6_judge 131 = .ok (.iconst 2, 1) := by decide +kernel
theorem dX6_judge_132 : decode cX6_judge 132 = .ok (.idiv, 1) := by decide +kernel
theorem dX6_judge_133 : decode cX6_judge 133 = .ok (.invokevirtual 166, 3) := by decide +kernel
theorem dX6_judge_136 : decode cX6_judge 136 = .ok (.ifCond .eq 7, 3) := by decide +kernel
theorem dX6_judge_139 : decode cX6_judge 139 = .ok (.iconst 1, 1) := by decide +kernel
theorem dX6_judge_140 : decode cX6_judge 140 = .ok (.goto 4, 3) := by decide +kernel
theorem dX6_judge_143 : decode cX6_judge 143 = .ok (.iconst 0, 1) := by decide +kernel
theorem dX6_judge_144 : decode cX6_judge 144 = .ok (.istore_n 3, 1) := by decide +kernel
theorem dX6_judge_145 : decode cX6_judge 145 = .ok (.iload_n 2, 1) := by decide +kernel
theorem dX6_judge_146 : decode cX6_judge 146 = .ok (.iload_n 3, 1) := by decide +kernel
theorem dX6_judge_147 : decode cX6_judge 147 = .ok (.ifCond .eq 7, 3) := by decide +kernel
theorem dX6_judge_150 : decode cX6_judge 150 = .ok (.iconst 2, 1) := by decide +kernel
theorem dX6_judge_151 : decode cX6_judge 151 = .ok (.goto 4, 3) := by decide +kernel
theorem dX6_judge_154 : decode cX6_judge 154 = .ok (.iconst 0, 1) := by decide +kernel
theorem dX6_judge_155 : decode cX6_judge 155 = .ok (.iadd, 1) := by decide +kernel
theorem dX6_judge_156 : decode cX6_judge 156 = .ok (.istore_n 2, 1) := by decide +kernel
theorem dX6_judge_157 : decode cX6_judge 157 = .ok (.goto (-123), 3) := by decide +kernel
theorem dX6_judge_160 : decode cX6_judge 160 = .ok (.iload_n 3, 1) := by decide +kernel
theorem dX6_judge_161 : decode cX6_judge 161 = .ok (.ifCond .eq 7, 3) := by decide +kernel
theorem dX6_judge_164 : decode cX6_judge 164 = .ok (.iconst 0, 1) := by decide +kernel
theorem dX6_judge_165 : decode cX6_judge 165 = .ok (.goto 6, 3) := by decide +kernel
theorem dX6_judge_168 : decode cX6_judge 168 = .ok (.iconst 1, 1) := by decide +kernel
theorem dX6_judge_169 : decode cX6_judge 169 = .ok (.iload_n 2, 1) := by decide +kernel
theorem dX6_judge_170 : decode cX6_judge 170 = .ok (.iadd, 1) := by decide +kernel
theorem dX6_judge_171 : decode cX6_judge 171 = .ok (.ireturn, 1) := by decide +kernel
theorem dX6_image_0 : decode cX6_image 0 = .ok (.aload_n 0, 1) := by decide +kernel
theorem dX6_image_1 : decode cX6_image 1 = .ok (.getfield 9, 3) := by decide +kernel
theorem dX6_image_4 : decode cX6_image 4 = .ok (.aload_n 0, 1) := by decide +kernel
theorem dX6_image_5 : decode cX6_image 5 = .ok (.getfield 13, 3) := by decide +kernel
theorem dX6_image_8 : decode cX6_image 8 = .ok (.invokestatic 71, 3) := by decide +kernel
theorem dX6_image_11 : decode cX6_image 11 = .ok (.aload_n 0, 1) := by decide +kernel
theorem dX6_image_12 : decode cX6_image 12 = .ok (.iconst 1, 1) := by decide +kernel
theorem dX6_image_13 : decode cX6_image 13 = .ok (.putfield 348, 3) := by decide +kernel
theorem dX6_image_16 : decode cX6_image 16 = .ok (.iconst 1, 1) := by decide +kernel
theorem dX6_image_17 : decode cX6_image 17 = .ok (.ireturn, 1) := by decide +kernel
theorem dX6_undo_0 : decode cX6_undo 0 = .ok (.aload_n 0, 1) := by decide +kernel
theorem dX6_undo_1 : decode cX6_undo 1 = .ok (.getfield 348, 3) := by decide +kernel
theorem dX6_undo_4 : decode cX6_undo 4 = .ok (.ifCond .ne 10, 3) := by decide +kernel
theorem dX6_undo_7 : decode cX6_undo 7 = .ok (.aload_n 0, 1) := by decide +kernel
theorem dX6_undo_8 : decode cX6_undo 8 = .ok (.ldc 205, 2) := by decide +kernel
theorem dX6_undo_10 : decode cX6_undo 10 = .ok (.invokevirtual 87, 3) := by decide +kernel
theorem dX6_undo_13 : decode cX6_undo 13 = .ok (.ireturn, 1) := by decide +kernel
theorem dX6_undo_14 : decode cX6_undo 14 = .ok (.aload_n 0, 1) := by decide +kernel
theorem dX6_undo_15 : decode cX6_undo 15 = .ok (.getfield 13, 3) := by decide +kernel
theorem dX6_undo_18 : decode cX6_undo 18 = .ok (.aload_n 0, 1) := by decide +kernel
theorem dX6_undo_19 : decode cX6_undo 19 = .ok (.getfield 9, 3) := by decide +kernel
theorem dX6_undo_22 : decode cX6_undo 22 = .ok (.invokestatic 71, 3) := by decide +kernel
theorem dX6_undo_25 : decode cX6_undo 25 = .ok (.aload_n 0, 1) := by decide +kernel
theorem dX6_undo_26 : decode cX6_undo 26 = .ok (.getfield 9, 3) := by decide +kernel
theorem dX6_undo_29 : decode cX6_undo 29 = .ok (.iconst 1, 1) := by decide +kernel
theorem dX6_undo_30 : decode cX6_undo 30 = .ok (.iaload, 1) := by decide +kernel
theorem dX6_undo_31 : decode cX6_undo 31 = .ok (.ireturn, 1) := by decide +kernel
theorem dX6_tear_0 : decode cX6_tear 0 = .ok (.aload_n 0, 1) := by decide +kernel
theorem dX6_tear_1 : decode cX6_tear 1 = .ok (.getfield 348, 3) := by decide +kernel
theorem dX6_tear_4 : decode cX6_tear 4 = .ok (.ifCond .eq 7, 3) := by decide +kernel
theorem dX6_tear_7 : decode cX6_tear 7 = .ok (.iconst 1, 1) := by decide +kernel
theorem dX6_tear_8 : decode cX6_tear 8 = .ok (.goto 4, 3) := by decide +kernel
theorem dX6_tear_11 : decode cX6_tear 11 = .ok (.iconst 0, 1) := by decide +kernel
theorem dX6_tear_12 : decode cX6_tear 12 = .ok (.istore_n 1, 1) := by decide +kernel
theorem dX6_tear_13 : decode cX6_tear 13 = .ok (.aload_n 0, 1) := by decide +kernel
theorem dX6_tear_14 : decode cX6_tear 14 = .ok (.iconst 0, 1) := by decide +kernel
theorem dX6_tear_15 : decode cX6_tear 15 = .ok (.putfield 348, 3) := by decide +kernel
theorem dX6_tear_18 : decode cX6_tear 18 = .ok (.iload_n 1, 1) := by decide +kernel
theorem dX6_tear_19 : decode cX6_tear 19 = .ok (.ireturn, 1) := by decide +kernel
theorem dX6_count_0 : decode cX6_count 0 = .ok (.iconst 0, 1) := by decide +kernel
theorem dX6_count_1 : decode cX6_count 1 = .ok (.istore_n 2, 1) := by decide +kernel
theorem dX6_count_2 : decode cX6_count 2 = .ok (.iload_n 1, 1) := by decide +kernel
theorem dX6_count_3 : decode cX6_count 3 = .ok (.tableswitch 152 0 7 #[45, 52, 59, 66, 74, 103, 108, 116], 45) := by decide +kernel
theorem dX6_count_48 : decode cX6_count 48 = .ok (.aload_n 0, 1) := by decide +kernel
theorem dX6_count_49 : decode cX6_count 49 = .ok (.getfield 9, 3) := by decide +kernel
theorem dX6_count_52 : decode cX6_count 52 = .ok (.iconst 1, 1) := by decide +kernel
theorem dX6_count_53 : decode cX6_count 53 = .ok (.iaload, 1) := by decide +kernel
theorem dX6_count_54 : decode cX6_count 54 = .ok (.ireturn, 1) := by decide +kernel
theorem dX6_count_55 : decode cX6_count 55 = .ok (.aload_n 0, 1) := by decide +kernel
theorem dX6_count_56 : decode cX6_count 56 = .ok (.getfield 9, 3) := by decide +kernel
theorem dX6_count_59 : decode cX6_count 59 = .ok (.iconst 0, 1) := by decide +kernel
theorem dX6_count_60 : decode cX6_count 60 = .ok (.iaload, 1) := by decide +kernel
theorem dX6_count_61 : decode cX6_count 61 = .ok (.ireturn, 1) := by decide +kernel
theorem dX6_count_62 : decode cX6_count 62 = .ok (.aload_n 0, 1) := by decide +kernel
theorem dX6_count_63 : decode cX6_count 63 = .ok (.getfield 9, 3) := by decide +kernel
theorem dX6_count_66 : decode cX6_count 66 = .ok (.iconst 4, 1) := by decide +kernel
theorem dX6_count_67 : decode cX6_count 67 = .ok (.iaload, 1) := by decide +kernel
theorem dX6_count_68 : decode cX6_count 68 = .ok (.ireturn, 1) := by decide +kernel
theorem dX6_count_69 : decode cX6_count 69 = .ok (.aload_n 0, 1) := by decide +kernel
theorem dX6_count_70 : decode cX6_count 70 = .ok (.getfield 9, 3) := by decide +kernel
theorem dX6_count_73 : decode cX6_count 73 = .ok (.bipush 6, 2) := by decide +kernel
theorem dX6_count_75 : decode cX6_count 75 = .ok (.iaload, 1) := by decide +kernel
theorem dX6_count_76 : decode cX6_count 76 = .ok (.ireturn, 1) := by decide +kernel
theorem dX6_count_77 : decode cX6_count 77 = .ok (.iconst 0, 1) := by decide +kernel
theorem dX6_count_78 : decode cX6_count 78 = .ok (.istore_n 3, 1) := by decide +kernel
theorem dX6_count_79 : decode cX6_count 79 = .ok (.iload_n 3, 1) := by decide +kernel
theorem dX6_count_80 : decode cX6_count 80 = .ok (.aload_n 0, 1) := by decide +kernel
theorem dX6_count_81 : decode cX6_count 81 = .ok (.getfield 9, 3) := by decide +kernel
theorem dX6_count_84 : decode cX6_count 84 = .ok (.iconst 0, 1) := by decide +kernel
theorem dX6_count_85 : decode cX6_count 85 = .ok (.iaload, 1) := by decide +kernel
theorem dX6_count_86 : decode cX6_count 86 = .ok (.if_icmp .ge 18, 3) := by decide +kernel
theorem dX6_count_89 : decode cX6_count 89 = .ok (.iload_n 2, 1) := by decide +kernel
theorem dX6_count_90 : decode cX6_count 90 = .ok (.aload_n 0, 1) := by decide +kernel
theorem dX6_count_91 : decode cX6_count 91 = .ok (.iload_n 3, 1) := by decide +kernel
theorem dX6_count_92 : decode cX6_count 92 = .ok (.iconst 1, 1) := by decide +kernel
theorem dX6_count_93 : decode cX6_count 93 = .ok (.invokevirtual 98, 3) := by decide +kernel
theorem dX6_count_96 : decode cX6_count 96 = .ok (.iadd, 1) := by decide +kernel
theorem dX6_count_97 : decode cX6_count 97 = .ok (.istore_n 2, 1) := by decide +kernel
theorem dX6_count_98 : decode cX6_count 98 = .ok (.iinc 3 1, 3) := by decide +kernel
theorem dX6_count_101 : decode cX6_count 101 = .ok (.goto (-22), 3) := by decide +kernel
theorem dX6_count_104 : decode cX6_count 104 = .ok (.iload_n 2, 1) := by decide +kernel
theorem dX6_count_105 : decode cX6_count 105 = .ok (.ireturn, 1) := by decide +kernel
theorem dX6_count_106 : decode cX6_count 106 = .ok (.aload_n 0, 1) := by decide +kernel
theorem dX6_count_107 : decode cX6_count 107 = .ok (.getfield 263, 3) := by decide +kernel
theorem dX6_count_110 : decode cX6_count 110 = .ok (.ireturn, 1) := by decide +kernel
theorem dX6_count_111 : decode cX6_count 111 = .ok (.aload_n 0, 1) := by decide +kernel
theorem dX6_count_112 : decode cX6_count 112 = .ok (.getfield 9, 3) := by decide +kernel
theorem dX6_count_115 : decode cX6_count 115 = .ok (.bipush 9, 2) := by decide +kernel
theorem dX6_count_117 : decode cX6_count 117 = .ok (.iaload, 1) := by decide +kernel
theorem dX6_count_118 : decode cX6_count 118 = .ok (.ireturn, 1) := by decide +kernel
theorem dX6_count_119 : decode cX6_count 119 = .ok (.iconst 0, 1) := by decide +kernel
theorem dX6_count_120 : decode cX6_count 120 = .ok (.istore_n 3, 1) := by decide +kernel
theorem dX6_count_121 : decode cX6_count 121 = .ok (.iload_n 3, 1) := by decide +kernel
theorem dX6_count_122 : decode cX6_count 122 = .ok (.bipush 10, 2) := by decide +kernel
theorem dX6_count_124 : decode cX6_count 124 = .ok (.if_icmp .ge 29, 3) := by decide +kernel
theorem dX6_count_127 : decode cX6_count 127 = .ok (.iload_n 2, 1) := by decide +kernel
theorem dX6_count_128 : decode cX6_count 128 = .ok (.aload_n 0, 1) := by decide +kernel
theorem dX6_count_129 : decode cX6_count 129 = .ok (.getfield 9, 3) := by decide +kernel
theorem dX6_count_132 : decode cX6_count 132 = .ok (.bipush 10, 2) := by decide +kernel
theorem dX6_count_134 : decode cX6_count 134 = .ok (.iload_n 3, 1) := by decide +kernel
theorem dX6_count_135 : decode cX6_count 135 = .ok (.iadd, 1) := by decide +kernel
theorem dX6_count_136 : decode cX6_count 136 = .ok (.iaload, 1) := by decide +kernel
theorem dX6_count_137 : decode cX6_count 137 = .ok (.ifCond .ge 7, 3) := by decide +kernel
theorem dX6_count_140 : decode cX6_count 140 = .ok (.iconst 0, 1) := by decide +kernel
theorem dX6_count_141 : decode cX6_count 141 = .ok (.goto 4, 3) := by decide +kernel
theorem dX6_count_144 : decode cX6_count 144 = .ok (.iconst 1, 1) := by decide +kernel
theorem dX6_count_145 : decode cX6_count 145 = .ok (.iadd, 1) := by decide +kernel
theorem dX6_count_146 : decode cX6_count 146 = .ok (.istore_n 2, 1) := by decide +kernel
theorem dX6_count_147 : decode cX6_count 147 = .ok (.iinc 3 1, 3) := by decide +kernel
theorem dX6_count_150 : decode cX6_count 150 = .ok (.goto (-29), 3) := by decide +kernel
theorem dX6_count_153 : decode cX6_count 153 = .ok (.iload_n 2, 1) := by decide +kernel
theorem dX6_count_154 : decode cX6_count 154 = .ok (.ireturn, 1) := by decide +kernel
theorem dX6_count_155 : decode cX6_count 155 = .ok (.aload_n 0, 1) := by decide +kernel
theorem dX6_count_156 : decode cX6_count 156 = .ok (.ldc 70, 2) := by decide +kernel
theorem dX6_count_158 : decode cX6_count 158 = .ok (.invokevirtual 87, 3) := by decide +kernel
theorem dX6_count_161 : decode cX6_count 161 = .ok (.ireturn, 1) := by decide +kernel
theorem dX6_status_0 : decode cX6_status 0 = .ok (.iload_n 1, 1) := by decide +kernel
theorem dX6_status_1 : decode cX6_status 1 = .ok (.iconst (-1), 1) := by decide +kernel
theorem dX6_status_2 : decode cX6_status 2 = .ok (.bipush 6, 2) := by decide +kernel
theorem dX6_status_4 : decode cX6_status 4 = .ok (.invokestatic 75, 3) := by decide +kernel
theorem dX6_status_7 : decode cX6_status 7 = .ok (.ifCond .eq 14, 3) := by decide +kernel
theorem dX6_status_10 : decode cX6_status 10 = .ok (.aload_n 0, 1) := by decide +kernel
theorem dX6_status_11 : decode cX6_status 11 = .ok (.getfield 19, 3) := by decide +kernel
theorem dX6_status_14 : decode cX6_status 14 = .ok (.iload_n 1, 1) := by decide +kernel
theorem dX6_status_15 : decode cX6_status 15 = .ok (.iconst 1, 1) := by decide +kernel
theorem dX6_status_16 : decode cX6_status 16 = .ok (.iadd, 1) := by decide +kernel
theorem dX6_status_17 : decode cX6_status 17 = .ok (.iaload, 1) := by decide +kernel
theorem dX6_status_18 : decode cX6_status 18 = .ok (.goto 9, 3) := by decide +kernel
theorem dX6_status_21 : decode cX6_status 21 = .ok (.aload_n 0, 1) := by decide +kernel
theorem dX6_status_22 : decode cX6_status 22 = .ok (.ldc 70, 2) := by decide +kernel
theorem dX6_status_24 : decode cX6_status 24 = .ok (.invokevirtual 87, 3) := by decide +kernel
theorem dX6_status_27 : decode cX6_status 27 = .ok (.ireturn, 1) := by decide +kernel
