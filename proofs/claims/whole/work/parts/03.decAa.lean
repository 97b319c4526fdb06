theorem dX0_init_0 : decode cX0_init 0 = .ok (.aload_n 0, 1) := by decide +kernel
theorem dX0_init_1 : decode cX0_init 1 = .ok (.invokespecial 3, 3) := by decide +kernel
theorem dX0_init_4 : decode cX0_init 4 = .ok (.aload_n 0, 1) := by decide +kernel
theorem dX0_init_5 : decode cX0_init 5 = .ok (.bipush 8, 2) := by decide +kernel
theorem dX0_init_7 : decode cX0_init 7 = .ok (.newarray .int, 2) := by decide +kernel
theorem dX0_init_9 : decode cX0_init 9 = .ok (.putfield 9, 3) := by decide +kernel
theorem dX0_init_12 : decode cX0_init 12 = .ok (.aload_n 0, 1) := by decide +kernel
theorem dX0_init_13 : decode cX0_init 13 = .ok (.bipush 8, 2) := by decide +kernel
theorem dX0_init_15 : decode cX0_init 15 = .ok (.newarray .int, 2) := by decide +kernel
theorem dX0_init_17 : decode cX0_init 17 = .ok (.putfield 15, 3) := by decide +kernel
theorem dX0_init_20 : decode cX0_init 20 = .ok (.aload_n 0, 1) := by decide +kernel
theorem dX0_init_21 : decode cX0_init 21 = .ok (.bipush 8, 2) := by decide +kernel
theorem dX0_init_23 : decode cX0_init 23 = .ok (.newarray .int, 2) := by decide +kernel
theorem dX0_init_25 : decode cX0_init 25 = .ok (.putfield 18, 3) := by decide +kernel
theorem dX0_init_28 : decode cX0_init 28 = .ok (.aload_n 0, 1) := by decide +kernel
theorem dX0_init_29 : decode cX0_init 29 = .ok (.bipush 12, 2) := by decide +kernel
theorem dX0_init_31 : decode cX0_init 31 = .ok (.newarray .int, 2) := by decide +kernel
theorem dX0_init_33 : decode cX0_init 33 = .ok (.putfield 21, 3) := by decide +kernel
theorem dX0_init_36 : decode cX0_init 36 = .ok (.aload_n 0, 1) := by decide +kernel
theorem dX0_init_37 : decode cX0_init 37 = .ok (.bipush 12, 2) := by decide +kernel
theorem dX0_init_39 : decode cX0_init 39 = .ok (.newarray .int, 2) := by decide +kernel
theorem dX0_init_41 : decode cX0_init 41 = .ok (.putfield 24, 3) := by decide +kernel
theorem dX0_init_44 : decode cX0_init 44 = .ok (.aload_n 0, 1) := by decide +kernel
theorem dX0_init_45 : decode cX0_init 45 = .ok (.bipush 10, 2) := by decide +kernel
theorem dX0_init_47 : decode cX0_init 47 = .ok (.newarray .int, 2) := by decide +kernel
theorem dX0_init_49 : decode cX0_init 49 = .ok (.putfield 27, 3) := by decide +kernel
theorem dX0_init_52 : decode cX0_init 52 = .ok (.iconst 0, 1) := by decide +kernel
theorem dX0_init_53 : decode cX0_init 53 = .ok (.istore_n 1, 1) := by decide +kernel
theorem dX0_init_54 : decode cX0_init 54 = .ok (.iload_n 1, 1) := by decide +kernel
theorem dX0_init_55 : decode cX0_init 55 = .ok (.aload_n 0, 1) := by decide +kernel
theorem dX0_init_56 : decode cX0_init 56 = .ok (.getfield 27, 3) := by decide +kernel
theorem dX0_init_59 : decode cX0_init 59 = .ok (.arraylength, 1) := by decide +kernel
theorem dX0_init_60 : decode cX0_init 60 = .ok (.if_icmp .ge 16, 3) := by decide +kernel
theorem dX0_init_63 : decode cX0_init 63 = .ok (.aload_n 0, 1) := by decide +kernel
theorem dX0_init_64 : decode cX0_init 64 = .ok (.getfield 27, 3) := by decide +kernel
theorem dX0_init_67 : decode cX0_init 67 = .ok (.iload_n 1, 1) := by decide +kernel
theorem dX0_init_68 : decode cX0_init 68 = .ok (.iconst (-1), 1) := by decide +kernel
theorem dX0_init_69 : decode cX0_init 69 = .ok (.iastore, 1) := by decide +kernel
theorem dX0_init_70 : decode cX0_init 70 = .ok (.iinc 1 1, 3) := by decide +kernel
theorem dX0_init_73 : decode cX0_init 73 = .ok (.goto (-19), 3) := by decide +kernel
theorem dX0_init_76 : decode cX0_init 76 = .ok (.aload_n 0, 1) := by decide +kernel
theorem dX0_init_77 : decode cX0_init 77 = .ok (.iconst (-1), 1) := by decide +kernel
theorem dX0_init_78 : decode cX0_init 78 = .ok (.putfield 30, 3) := by decide +kernel
theorem dX0_init_81 : decode cX0_init 81 = .ok (.aload_n 0, 1) := by decide +kernel
theorem dX0_init_82 : decode cX0_init 82 = .ok (.iconst (-1), 1) := by decide +kernel
theorem dX0_init_83 : decode cX0_init 83 = .ok (.putfield 34, 3) := by decide +kernel
theorem dX0_init_86 : decode cX0_init 86 = .ok (.aload_n 0, 1) := by decide +kernel
theorem dX0_init_87 : decode cX0_init 87 = .ok (.iconst 1, 1) := by decide +kernel
theorem dX0_init_88 : decode cX0_init 88 = .ok (.putfield 37, 3) := by decide +kernel
theorem dX0_init_91 : decode cX0_init 91 = .ok (.return_, 1) := by decide +kernel
theorem dX0_take_0 : decode cX0_take 0 = .ok (.aload_n 0, 1) := by decide +kernel
theorem dX0_take_1 : decode cX0_take 1 = .ok (.aload_n 1, 1) := by decide +kernel
theorem dX0_take_2 : decode cX0_take 2 = .ok (.getfield 40, 3) := by decide +kernel
theorem dX0_take_5 : decode cX0_take 5 = .ok (.putfield 40, 3) := by decide +kernel
theorem dX0_take_8 : decode cX0_take 8 = .ok (.aload_n 0, 1) := by decide +kernel
theorem dX0_take_9 : decode cX0_take 9 = .ok (.aload_n 1, 1) := by decide +kernel
theorem dX0_take_10 : decode cX0_take 10 = .ok (.getfield 43, 3) := by decide +kernel
theorem dX0_take_13 : decode cX0_take 13 = .ok (.putfield 43, 3) := by decide +kernel
theorem dX0_take_16 : decode cX0_take 16 = .ok (.aload_n 0, 1) := by decide +kernel
theorem dX0_take_17 : decode cX0_take 17 = .ok (.aload_n 1, 1) := by decide +kernel
theorem dX0_take_18 : decode cX0_take 18 = .ok (.getfield 30, 3) := by decide +kernel
theorem dX0_take_21 : decode cX0_take 21 = .ok (.putfield 30, 3) := by decide +kernel
theorem dX0_take_24 : decode cX0_take 24 = .ok (.aload_n 0, 1) := by decide +kernel
theorem dX0_take_25 : decode cX0_take 25 = .ok (.aload_n 1, 1) := by decide +kernel
theorem dX0_take_26 : decode cX0_take 26 = .ok (.getfield 34, 3) := by decide +kernel
theorem dX0_take_29 : decode cX0_take 29 = .ok (.putfield 34, 3) := by decide +kernel
theorem dX0_take_32 : decode cX0_take 32 = .ok (.aload_n 0, 1) := by decide +kernel
theorem dX0_take_33 : decode cX0_take 33 = .ok (.aload_n 1, 1) := by decide +kernel
theorem dX0_take_34 : decode cX0_take 34 = .ok (.getfield 46, 3) := by decide +kernel
theorem dX0_take_37 : decode cX0_take 37 = .ok (.putfield 46, 3) := by decide +kernel
theorem dX0_take_40 : decode cX0_take 40 = .ok (.aload_n 0, 1) := by decide +kernel
theorem dX0_take_41 : decode cX0_take 41 = .ok (.aload_n 1, 1) := by decide +kernel
theorem dX0_take_42 : decode cX0_take 42 = .ok (.getfield 37, 3) := by decide +kernel
theorem dX0_take_45 : decode cX0_take 45 = .ok (.putfield 37, 3) := by decide +kernel
theorem dX0_take_48 : decode cX0_take 48 = .ok (.aload_n 0, 1) := by decide +kernel
theorem dX0_take_49 : decode cX0_take 49 = .ok (.aload_n 1, 1) := by decide +kernel
theorem dX0_take_50 : decode cX0_take 50 = .ok (.getfield 49, 3) := by decide +kernel
theorem dX0_take_53 : decode cX0_take 53 = .ok (.putfield 49, 3) := by decide +kernel
theorem dX0_take_56 : decode cX0_take 56 = .ok (.aload_n 0, 1) := by decide +kernel
theorem dX0_take_57 : decode cX0_take 57 = .ok (.aload_n 1, 1) := by decide +kernel
theorem dX0_take_58 : decode cX0_take 58 = .ok (.getfield 52, 3) := by decide +kernel
theorem dX0_take_61 : decode cX0_take 61 = .ok (.putfield 52, 3) := by decide +kernel
theorem dX0_take_64 : decode cX0_take 64 = .ok (.aload_n 0, 1) := by decide +kernel
theorem dX0_take_65 : decode cX0_take 65 = .ok (.aload_n 1, 1) := by decide +kernel
theorem dX0_take_66 : decode cX0_take 66 = .ok (.getfield 55, 3) := by decide +kernel
theorem dX0_take_69 : decode cX0_take 69 = .ok (.putfield 55, 3) := by decide +kernel
theorem dX0_take_72 : decode cX0_take 72 = .ok (.aload_n 0, 1) := by decide +kernel
theorem dX0_take_73 : decode cX0_take 73 = .ok (.aload_n 1, 1) := by decide +kernel
theorem dX0_take_74 : decode cX0_take 74 = .ok (.getfield 58, 3) := by decide +kernel
theorem dX0_take_77 : decode cX0_take 77 = .ok (.putfield 58, 3) := by decide +kernel
theorem dX0_take_80 : decode cX0_take 80 = .ok (.aload_n 1, 1) := by decide +kernel
theorem dX0_take_81 : decode cX0_take 81 = .ok (.getfield 9, 3) := by decide +kernel
theorem dX0_take_84 : decode cX0_take 84 = .ok (.iconst 0, 1) := by decide +kernel
theorem dX0_take_85 : decode cX0_take 85 = .ok (.aload_n 0, 1) := by decide +kernel
theorem dX0_take_86 : decode cX0_take 86 = .ok (.getfield 9, 3) := by decide +kernel
theorem dX0_take_89 : decode cX0_take 89 = .ok (.iconst 0, 1) := by decide +kernel
theorem dX0_take_90 : decode cX0_take 90 = .ok (.bipush 8, 2) := by decide +kernel
theorem dX0_take_92 : decode cX0_take 92 = .ok (.invokestatic 61, 3) := by decide +kernel
theorem dX0_take_95 : decode cX0_take 95 = .ok (.aload_n 1, 1) := by decide +kernel
theorem dX0_take_96 : decode cX0_take 96 = .ok (.getfield 15, 3) := by decide +kernel
theorem dX0_take_99 : decode cX0_take 99 = .ok (.iconst 0, 1) := by decide +kernel
theorem dX0_take_100 : decode cX0_take 100 = .ok (.aload_n 0, 1) := by decide +kernel
theorem dX0_take_101 : decode cX0_take 101 = .ok (.getfield 15, 3) := by decide +kernel
theorem dX0_take_104 : decode cX0_take 104 = .ok (.iconst 0, 1) := by decide +kernel
theorem dX0_take_105 : decode cX0_take 105 = .ok (.bipush 8, 2) := by decide +kernel
theorem dX0_take_107 : decode cX0_take 107 = .ok (.invokestatic 61, 3) := by decide +kernel
theorem dX0_take_110 : decode cX0_take 110 = .ok (.aload_n 1, 1) := by decide +kernel
theorem dX0_take_111 : decode cX0_take 111 = .ok (.getfield 18, 3) := by decide +kernel
theorem dX0_take_114 : decode cX0_take 114 = .ok (.iconst 0, 1) := by decide +kernel
theorem dX0_take_115 : decode cX0_take 115 = .ok (.aload_n 0, 1) := by decide +kernel
theorem dX0_take_116 : decode cX0_take 116 = .ok (.getfield 18, 3) := by decide +kernel
theorem dX0_take_119 : decode cX0_take 119 = .ok (.iconst 0, 1) := by decide +kernel
theorem dX0_take_120 : decode cX0_take 120 = .ok (.bipush 8, 2) := by decide +kernel
theorem dX0_take_122 : decode cX0_take 122 = .ok (.invokestatic 61, 3) := by decide +kernel
theorem dX0_take_125 : decode cX0_take 125 = .ok (.aload_n 1, 1) := by decide +kernel
theorem dX0_take_126 : decode cX0_take 126 = .ok (.getfield 21, 3) := by decide +kernel
theorem dX0_take_129 : decode cX0_take 129 = .ok (.iconst 0, 1) := by decide +kernel
theorem dX0_take_130 : decode cX0_take 130 = .ok (.aload_n 0, 1) := by decide +kernel
theorem dX0_take_131 : decode cX0_take 131 = .ok (.getfield 21, 3) := by decide +kernel
theorem dX0_take_134 : decode cX0_take 134 = .ok (.iconst 0, 1) := by decide +kernel
theorem dX0_take_135 : decode cX0_take 135 = .ok (.bipush 12, 2) := by decide +kernel
theorem dX0_take_137 : decode cX0_take 137 = .ok (.invokestatic 61, 3) := by decide +kernel
theorem dX0_take_140 : decode cX0_take 140 = .ok (.aload_n 1, 1) := by decide +kernel
theorem dX0_take_141 : decode cX0_take 141 = .ok (.getfield 24, 3) := by decide +kernel
theorem dX0_take_144 : decode cX0_take 144 = .ok (.iconst 0, 1) := by decide +kernel
theorem dX0_take_145 : decode cX0_take 145 = .ok (.aload_n 0, 1) := by decide +kernel
theorem dX0_take_146 : decode cX0_take 146 = .ok (.getfield 24, 3) := by decide +kernel
theorem dX0_take_149 : decode cX0_take 149 = .ok (.iconst 0, 1) := by decide +kernel
theorem dX0_take_150 : decode cX0_take 150 = .ok (.bipush 12, 2) := by decide +kernel
theorem dX0_take_152 : decode cX0_take 152 = .ok (.invokestatic 61, 3) := by decide +kernel
theorem dX0_take_155 : decode cX0_take 155 = .ok (.aload_n 1, 1) := by decide +kernel
theorem dX0_take_156 : decode cX0_take 156 = .ok (.getfield 27, 3) := by decide +kernel
theorem dX0_take_159 : decode cX0_take 159 = .ok (.iconst 0, 1) := by decide +kernel
theorem dX0_take_160 : decode cX0_take 160 = .ok (.aload_n 0, 1) := by decide +kernel
theorem dX0_take_161 : decode cX0_take 161 = .ok (.getfield 27, 3) := by decide +kernel
theorem dX0_take_164 : decode cX0_take 164 = .ok (.iconst 0, 1) := by decide +kernel
theorem dX0_take_165 : decode cX0_take 165 = .ok (.bipush 10, 2) := by decide +kernel
theorem dX0_take_167 : decode cX0_take 167 = .ok (.invokestatic 61, 3) := by decide +kernel
theorem dX0_take_170 : decode cX0_take 170 = .ok (.return_, 1) := by decide +kernel
theorem dX0_isDoll_0 : decode cX0_isDoll 0 = .ok (.iload_n 1, 1) := by decide +kernel
theorem dX0_isDoll_1 : decode cX0_isDoll 1 = .ok (.ifCond .lt 15, 3) := by decide +kernel
theorem dX0_isDoll_4 : decode cX0_isDoll 4 = .ok (.iload_n 1, 1) := by decide +kernel
theorem dX0_isDoll_5 : decode cX0_isDoll 5 = .ok (.aload_n 0, 1) := by decide +kernel
theorem dX0_isDoll_6 : decode cX0_isDoll 6 = .ok (.getfield 40, 3) := by decide +kernel
theorem dX0_isDoll_9 : decode cX0_isDoll 9 = .ok (.if_icmp .ge 7, 3) := by decide +kernel
theorem dX0_isDoll_12 : decode cX0_isDoll 12 = .ok (.iconst 1, 1) := by decide +kernel
theorem dX0_isDoll_13 : decode cX0_isDoll 13 = .ok (.goto 4, 3) := by decide +kernel
theorem dX0_isDoll_16 : decode cX0_isDoll 16 = .ok (.iconst 0, 1) := by decide +kernel
theorem dX0_isDoll_17 : decode cX0_isDoll 17 = .ok (.ireturn, 1) := by decide +kernel
theorem dX0_isDollOrNone_0 : decode cX0_isDollOrNone 0 = .ok (.iload_n 1, 1) := by decide +kernel
theorem dX0_isDollOrNone_1 : decode cX0_isDollOrNone 1 = .ok (.iconst (-1), 1) := by decide +kernel
theorem dX0_isDollOrNone_2 : decode cX0_isDollOrNone 2 = .ok (.if_icmp .eq 11, 3) := by decide +kernel
theorem dX0_isDollOrNone_5 : decode cX0_isDollOrNone 5 = .ok (.aload_n 0, 1) := by decide +kernel
theorem dX0_isDollOrNone_6 : decode cX0_isDollOrNone 6 = .ok (.iload_n 1, 1) := by decide +kernel
theorem dX0_isDollOrNone_7 : decode cX0_isDollOrNone 7 = .ok (.invokevirtual 67, 3) := by decide +kernel
theorem dX0_isDollOrNone_10 : decode cX0_isDollOrNone 10 = .ok (.ifCond .eq 7, 3) := by decide +kernel
theorem dX0_isDollOrNone_13 : decode cX0_isDollOrNone 13 = .ok (.iconst 1, 1) := by decide +kernel
theorem dX0_isDollOrNone_14 : decode cX0_isDollOrNone 14 = .ok (.goto 4, 3) := by decide +kernel
theorem dX0_isDollOrNone_17 : decode cX0_isDollOrNone 17 = .ok (.iconst 0, 1) := by decide +kernel
theorem dX0_isDollOrNone_18 : decode cX0_isDollOrNone 18 = .ok (.ireturn, 1) := by decide +kernel
theorem dX0_isCast_0 : decode cX0_isCast 0 = .ok (.iload_n 1, 1) := by decide +kernel
theorem dX0_isCast_1 : decode cX0_isCast 1 = .ok (.ifCond .lt 17, 3) := by decide +kernel
theorem dX0_isCast_4 : decode cX0_isCast 4 = .ok (.iload_n 1, 1) := by decide +kernel
theorem dX0_isCast_5 : decode cX0_isCast 5 = .ok (.iconst 1, 1) := by decide +kernel
theorem dX0_isCast_6 : decode cX0_isCast 6 = .ok (.aload_n 0, 1) := by decide +kernel
theorem dX0_isCast_7 : decode cX0_isCast 7 = .ok (.getfield 40, 3) := by decide +kernel
theorem dX0_isCast_10 : decode cX0_isCast 10 = .ok (.ishl, 1) := by decide +kernel
theorem dX0_isCast_11 : decode cX0_isCast 11 = .ok (.if_icmp .ge 7, 3) := by decide +kernel
theorem dX0_isCast_14 : decode cX0_isCast 14 = .ok (.iconst 1, 1) := by decide +kernel
theorem dX0_isCast_15 : decode cX0_isCast 15 = .ok (.goto 4, 3) := by decide +kernel
theorem dX0_isCast_18 : decode cX0_isCast 18 = .ok (.iconst 0, 1) := by decide +kernel
theorem dX0_isCast_19 : decode cX0_isCast 19 = .ok (.ireturn, 1) := by decide +kernel
theorem dX0_isBeat_0 : decode cX0_isBeat 0 = .ok (.iload_n 1, 1) := by decide +kernel
theorem dX0_isBeat_1 : decode cX0_isBeat 1 = .ok (.ifCond .lt 15, 3) := by decide +kernel
theorem dX0_isBeat_4 : decode cX0_isBeat 4 = .ok (.iload_n 1, 1) := by decide +kernel
theorem dX0_isBeat_5 : decode cX0_isBeat 5 = .ok (.aload_n 0, 1) := by decide +kernel
theorem dX0_isBeat_6 : decode cX0_isBeat 6 = .ok (.getfield 43, 3) := by decide +kernel
theorem dX0_isBeat_9 : decode cX0_isBeat 9 = .ok (.if_icmp .ge 7, 3) := by decide +kernel
theorem dX0_isBeat_12 : decode cX0_isBeat 12 = .ok (.iconst 1, 1) := by decide +kernel
theorem dX0_isBeat_13 : decode cX0_isBeat 13 = .ok (.goto 4, 3) := by decide +kernel
theorem dX0_isBeat_16 : decode cX0_isBeat 16 = .ok (.iconst 0, 1) := by decide +kernel
theorem dX0_isBeat_17 : decode cX0_isBeat 17 = .ok (.ireturn, 1) := by decide +kernel
theorem dX0_isSpot_0 : decode cX0_isSpot 0 = .ok (.iload_n 1, 1) := by decide +kernel
theorem dX0_isSpot_1 : decode cX0_isSpot 1 = .ok (.ifCond .lt 13, 3) := by decide +kernel
theorem dX0_isSpot_4 : decode cX0_isSpot 4 = .ok (.iload_n 1, 1) := by decide +kernel
theorem dX0_isSpot_5 : decode cX0_isSpot 5 = .ok (.bipush 10, 2) := by decide +kernel
theorem dX0_isSpot_7 : decode cX0_isSpot 7 = .ok (.if_icmp .ge 7, 3) := by decide +kernel
theorem dX0_isSpot_10 : decode cX0_isSpot 10 = .ok (.iconst 1, 1) := by decide +kernel
theorem dX0_isSpot_11 : decode cX0_isSpot 11 = .ok (.goto 4, 3) := by decide +kernel
theorem dX0_isSpot_14 : decode cX0_isSpot 14 = .ok (.iconst 0, 1) := by decide +kernel
theorem dX0_isSpot_15 : decode cX0_isSpot 15 = .ok (.ireturn, 1) := by decide +kernel
theorem dX0_addDoll_0 : decode cX0_addDoll 0 = .ok (.aload_n 0, 1) := by decide +kernel
theorem dX0_addDoll_1 : decode cX0_addDoll 1 = .ok (.getfield 40, 3) := by decide +kernel
theorem dX0_addDoll_4 : decode cX0_addDoll 4 = .ok (.ifCond .lt 12, 3) := by decide +kernel
theorem dX0_addDoll_7 : decode cX0_addDoll 7 = .ok (.aload_n 0, 1) := by decide +kernel
theorem dX0_addDoll_8 : decode cX0_addDoll 8 = .ok (.getfield 40, 3) := by decide +kernel
theorem dX0_addDoll_11 : decode cX0_addDoll 11 = .ok (.bipush 8, 2) := by decide +kernel
theorem dX0_addDoll_13 : decode cX0_addDoll 13 = .ok (.if_icmp .lt 5, 3) := by decide +kernel
theorem dX0_addDoll_16 : decode cX0_addDoll 16 = .ok (.iconst (-1), 1) := by decide +kernel
theorem dX0_addDoll_17 : decode cX0_addDoll 17 = .ok (.ireturn, 1) := by decide +kernel
theorem dX0_addDoll_18 : decode cX0_addDoll 18 = .ok (.aload_n 0, 1) := by decide +kernel
theorem dX0_addDoll_19 : decode cX0_addDoll 19 = .ok (.getfield 9, 3) := by decide +kernel
theorem dX0_addDoll_22 : decode cX0_addDoll 22 = .ok (.aload_n 0, 1) := by decide +kernel
theorem dX0_addDoll_23 : decode cX0_addDoll 23 = .ok (.getfield 40, 3) := by decide +kernel
theorem dX0_addDoll_26 : decode cX0_addDoll 26 = .ok (.iload_n 1, 1) := by decide +kernel
theorem dX0_addDoll_27 : decode cX0_addDoll 27 = .ok (.iastore, 1) := by decide +kernel
theorem dX0_addDoll_28 : decode cX0_addDoll 28 = .ok (.aload_n 0, 1) := by decide +kernel
theorem dX0_addDoll_29 : decode cX0_addDoll 29 = .ok (.getfield 15, 3) := by decide +kernel
theorem dX0_addDoll_32 : decode cX0_addDoll 32 = .ok (.aload_n 0, 1) := by decide +kernel
theorem dX0_addDoll_33 : decode cX0_addDoll 33 = .ok (.getfield 40, 3) := by decide +kernel
theorem dX0_addDoll_36 : decode cX0_addDoll 36 = .ok (.iconst 3, 1) := by decide +kernel
theorem dX0_addDoll_37 : decode cX0_addDoll 37 = .ok (.iastore, 1) := by decide +kernel
theorem dX0_addDoll_38 : decode cX0_addDoll 38 = .ok (.aload_n 0, 1) := by decide +kernel
theorem dX0_addDoll_39 : decode cX0_addDoll 39 = .ok (.getfield 18, 3) := by decide +kernel
theorem dX0_addDoll_42 : decode cX0_addDoll 42 = .ok (.aload_n 0, 1) := by decide +kernel
theorem dX0_addDoll_43 : decode cX0_addDoll 43 = .ok (.getfield 40, 3) := by decide +kernel
theorem dX0_addDoll_46 : decode cX0_addDoll 46 = .ok (.aload_n 0, 1) := by decide +kernel
theorem dX0_addDoll_47 : decode cX0_addDoll 47 = .ok (.getfield 40, 3) := by decide +kernel
theorem dX0_addDoll_50 : decode cX0_addDoll 50 = .ok (.iastore, 1) := by decide +kernel
theorem dX0_addDoll_51 : decode cX0_addDoll 51 = .ok (.aload_n 0, 1) := by decide +kernel
theorem dX0_addDoll_52 : decode cX0_addDoll 52 = .ok (.dup, 1) := by decide +kernel
theorem dX0_addDoll_53 : decode cX0_addDoll 53 = .ok (.getfield 40, 3) := by decide +kernel
theorem dX0_addDoll_56 : decode cX0_addDoll 56 = .ok (.iconst 1, 1) := by decide +kernel
theorem dX0_addDoll_57 : decode cX0_addDoll 57 = .ok (.iadd, 1) := by decide +kernel
theorem dX0_addDoll_58 : decode cX0_addDoll 58 = .ok (.putfield 40, 3) := by decide +kernel
theorem dX0_addDoll_61 : decode cX0_addDoll 61 = .ok (.aload_n 0, 1) := by decide +kernel
theorem dX0_addDoll_62 : decode cX0_addDoll 62 = .ok (.getfield 40, 3) := by decide +kernel
theorem dX0_addDoll_65 : decode cX0_addDoll 65 = .ok (.iconst 1, 1) := by decide +kernel
theorem dX0_addDoll_66 : decode cX0_addDoll 66 = .ok (.isub, 1) := by decide +kernel
theorem dX0_addDoll_67 : decode cX0_addDoll 67 = .ok (.ireturn, 1) := by decide +kernel
theorem dX0_kindOf_0 : decode cX0_kindOf 0 = .ok (.aload_n 0, 1) := by decide +kernel
theorem dX0_kindOf_1 : decode cX0_kindOf 1 = .ok (.iload_n 1, 1) := by decide +kernel
theorem dX0_kindOf_2 : decode cX0_kindOf 2 = .ok (.invokevirtual 67, 3) := by decide +kernel
theorem dX0_kindOf_5 : decode cX0_kindOf 5 = .ok (.ifCond .eq 12, 3) := by decide +kernel
theorem dX0_kindOf_8 : decode cX0_kindOf 8 = .ok (.aload_n 0, 1) := by decide +kernel
theorem dX0_kindOf_9 : decode cX0_kindOf 9 = .ok (.getfield 9, 3) := by decide +kernel
theorem dX0_kindOf_12 : decode cX0_kindOf 12 = .ok (.iload_n 1, 1) := by decide +kernel
theorem dX0_kindOf_13 : decode cX0_kindOf 13 = .ok (.iaload, 1) := by decide +kernel
theorem dX0_kindOf_14 : decode cX0_kindOf 14 = .ok (.goto 4, 3) := by decide +kernel
theorem dX0_kindOf_17 : decode cX0_kindOf 17 = .ok (.iconst 0, 1) := by decide +kernel
theorem dX0_kindOf_18 : decode cX0_kindOf 18 = .ok (.ireturn, 1) := by decide +kernel
theorem dX0_sizeOf_0 : decode cX0_sizeOf 0 = .ok (.aload_n 0, 1) := by decide +kernel
theorem dX0_sizeOf_1 : decode cX0_sizeOf 1 = .ok (.iload_n 1, 1) := by decide +kernel
theorem dX0_sizeOf_2 : decode cX0_sizeOf 2 = .ok (.invokevirtual 67, 3) := by decide +kernel
theorem dX0_sizeOf_5 : decode cX0_sizeOf 5 = .ok (.ifCond .eq 12, 3) := by decide +kernel
theorem dX0_sizeOf_8 : decode cX0_sizeOf 8 = .ok (.aload_n 0, 1) := by decide +kernel
theorem dX0_sizeOf_9 : decode cX0_sizeOf 9 = .ok (.getfield 15, 3) := by decide +kernel
theorem dX0_sizeOf_12 : decode cX0_sizeOf 12 = .ok (.iload_n 1, 1) := by decide +kernel
theorem dX0_sizeOf_13 : decode cX0_sizeOf 13 = .ok (.iaload, 1) := by decide +kernel
theorem dX0_sizeOf_14 : decode cX0_sizeOf 14 = .ok (.goto 4, 3) := by decide +kernel
theorem dX0_sizeOf_17 : decode cX0_sizeOf 17 = .ok (.iconst 0, 1) := by decide +kernel
theorem dX0_sizeOf_18 : decode cX0_sizeOf 18 = .ok (.ireturn, 1) := by decide +kernel
theorem dX0_hookOf_0 : decode cX0_hookOf 0 = .ok (.aload_n 0, 1) := by decide +kernel
theorem dX0_hookOf_1 : decode cX0_hookOf 1 = .ok (.iload_n 1, 1) := by decide +kernel
theorem dX0_hookOf_2 : decode cX0_hookOf 2 = .ok (.invokevirtual 67, 3) := by decide +kernel
theorem dX0_hookOf_5 : decode cX0_hookOf 5 = .ok (.ifCond .eq 12, 3) := by decide +kernel
theorem dX0_hookOf_8 : decode cX0_hookOf 8 = .ok (.aload_n 0, 1) := by decide +kernel
theorem dX0_hookOf_9 : decode cX0_hookOf 9 = .ok (.getfield 18, 3) := by decide +kernel
theorem dX0_hookOf_12 : decode cX0_hookOf 12 = .ok (.iload_n 1, 1) := by decide +kernel
theorem dX0_hookOf_13 : decode cX0_hookOf 13 = .ok (.iaload, 1) := by decide +kernel
theorem dX0_hookOf_14 : decode cX0_hookOf 14 = .ok (.goto 4, 3) := by decide +kernel
theorem dX0_hookOf_17 : decode cX0_hookOf 17 = .ok (.iconst 0, 1) := by decide +kernel
theorem dX0_hookOf_18 : decode cX0_hookOf 18 = .ok (.ireturn, 1) := by decide +kernel
theorem dX0_onOf_0 : decode cX0_onOf 0 = .ok (.aload_n 0, 1) := by decide +kernel
theorem dX0_onOf_1 : decode cX0_onOf 1 = .ok (.iload_n 1, 1) := by decide +kernel
theorem dX0_onOf_2 : decode cX0_onOf 2 = .ok (.invokevirtual 67, 3) := by decide +kernel
theorem dX0_onOf_5 : decode cX0_onOf 5 = .ok (.ifCond .eq 21, 3) := by decide +kernel
theorem dX0_onOf_8 : decode cX0_onOf 8 = .ok (.aload_n 0, 1) := by decide +kernel
theorem dX0_onOf_9 : decode cX0_onOf 9 = .ok (.getfield 9, 3) := by decide +kernel
theorem dX0_onOf_12 : decode cX0_onOf 12 = .ok (.iload_n 1, 1) := by decide +kernel
theorem dX0_onOf_13 : decode cX0_onOf 13 = .ok (.iaload, 1) := by decide +kernel
theorem dX0_onOf_14 : decode cX0_onOf 14 = .ok (.aload_n 0, 1) := by decide +kernel
theorem dX0_onOf_15 : decode cX0_onOf 15 = .ok (.getfield 15, 3) := by decide +kernel
theorem dX0_onOf_18 : decode cX0_onOf 18 = .ok (.iload_n 1, 1) := by decide +kernel
theorem dX0_onOf_19 : decode cX0_onOf 19 = .ok (.iaload, 1) := by decide +kernel
theorem dX0_onOf_20 : decode cX0_onOf 20 = .ok (.invokestatic 71, 3) := by decide +kernel
theorem dX0_onOf_23 : decode cX0_onOf 23 = .ok (.goto 4, 3) := by decide +kernel
theorem dX0_onOf_26 : decode cX0_onOf 26 = .ok (.iconst 0, 1) := by decide +kernel
theorem dX0_onOf_27 : decode cX0_onOf 27 = .ok (.ireturn, 1) := by decide +kernel
theorem dX0_wantOf_0 : decode cX0_wantOf 0 = .ok (.aload_n 0, 1) := by decide +kernel
theorem dX0_wantOf_1 : decode cX0_wantOf 1 = .ok (.iload_n 1, 1) := by decide +kernel
theorem dX0_wantOf_2 : decode cX0_wantOf 2 = .ok (.invokevirtual 67, 3) := by decide +kernel
theorem dX0_wantOf_5 : decode cX0_wantOf 5 = .ok (.ifCond .eq 15, 3) := by decide +kernel
theorem dX0_wantOf_8 : decode cX0_wantOf 8 = .ok (.aload_n 0, 1) := by decide +kernel
theorem dX0_wantOf_9 : decode cX0_wantOf 9 = .ok (.getfield 9, 3) := by decide +kernel
theorem dX0_wantOf_12 : decode cX0_wantOf 12 = .ok (.iload_n 1, 1) := by decide +kernel
theorem dX0_wantOf_13 : decode cX0_wantOf 13 = .ok (.iaload, 1) := by decide +kernel
theorem dX0_wantOf_14 : decode cX0_wantOf 14 = .ok (.invokestatic 77, 3) := by decide +kernel
theorem dX0_wantOf_17 : decode cX0_wantOf 17 = .ok (.goto 4, 3) := by decide +kernel
theorem dX0_wantOf_20 : decode cX0_wantOf 20 = .ok (.iconst 0, 1) := by decide +kernel
theorem dX0_wantOf_21 : decode cX0_wantOf 21 = .ok (.ireturn, 1) := by decide +kernel
theorem dX0_voiceOf_0 : decode cX0_voiceOf 0 = .ok (.aload_n 0, 1) := by decide +kernel
theorem dX0_voiceOf_1 : decode cX0_voiceOf 1 = .ok (.iload_n 1, 1) := by decide +kernel
theorem dX0_voiceOf_2 : decode cX0_voiceOf 2 = .ok (.invokevirtual 67, 3) := by decide +kernel
theorem dX0_voiceOf_5 : decode cX0_voiceOf 5 = .ok (.ifCond .eq 15, 3) := by decide +kernel
theorem dX0_voiceOf_8 : decode cX0_voiceOf 8 = .ok (.aload_n 0, 1) := by decide +kernel
theorem dX0_voiceOf_9 : decode cX0_voiceOf 9 = .ok (.getfield 9, 3) := by decide +kernel
theorem dX0_voiceOf_12 : decode cX0_voiceOf 12 = .ok (.iload_n 1, 1) := by decide +kernel
theorem dX0_voiceOf_13 : decode cX0_voiceOf 13 = .ok (.iaload, 1) := by decide +kernel
theorem dX0_voiceOf_14 : decode cX0_voiceOf 14 = .ok (.invokestatic 81, 3) := by decide +kernel
theorem dX0_voiceOf_17 : decode cX0_voiceOf 17 = .ok (.goto 4, 3) := by decide +kernel
theorem dX0_voiceOf_20 : decode cX0_voiceOf 20 = .ok (.iconst 0, 1) := by decide +kernel
theorem dX0_voiceOf_21 : decode cX0_voiceOf 21 = .ok (.ireturn, 1) := by decide +kernel
theorem dX0_setKind_0 : decode cX0_setKind 0 = .ok (.aload_n 0, 1) := by decide +kernel
theorem dX0_setKind_1 : decode cX0_setKind 1 = .ok (.iload_n 1, 1) := by decide +kernel
theorem dX0_setKind_2 : decode cX0_setKind 2 = .ok (.invokevirtual 67, 3) := by decide +kernel
theorem dX0_setKind_5 : decode cX0_setKind 5 = .ok (.ifCond .eq 10, 3) := by decide +kernel
theorem dX0_setKind_8 : decode cX0_setKind 8 = .ok (.aload_n 0, 1) := by decide +kernel
theorem dX0_setKind_9 : decode cX0_setKind 9 = .ok (.getfield 9, 3) := by decide +kernel
theorem dX0_setKind_12 : decode cX0_setKind 12 = .ok (.iload_n 1, 1) := by decide +kernel
theorem dX0_setKind_13 : decode cX0_setKind 13 = .ok (.iload_n 2, 1) := by decide +kernel
theorem dX0_setKind_14 : decode cX0_setKind 14 = .ok (.iastore, 1) := by decide +kernel
theorem dX0_setKind_15 : decode cX0_setKind 15 = .ok (.return_, 1) := by decide +kernel
theorem dX0_setSize_0 : decode cX0_setSize 0 = .ok (.aload_n 0, 1) := by decide +kernel
theorem dX0_setSize_1 : decode cX0_setSize 1 = .ok (.iload_n 1, 1) := by decide +kernel
theorem dX0_setSize_2 : decode cX0_setSize 2 = .ok (.invokevirtual 67, 3) := by decide +kernel
theorem dX0_setSize_5 : decode cX0_setSize 5 = .ok (.ifCond .eq 10, 3) := by decide +kernel
theorem dX0_setSize_8 : decode cX0_setSize 8 = .ok (.aload_n 0, 1) := by decide +kernel
theorem dX0_setSize_9 : decode cX0_setSize 9 = .ok (.getfield 15, 3) := by decide +kernel
theorem dX0_setSize_12 : decode cX0_setSize 12 = .ok (.iload_n 1, 1) := by decide +kernel
theorem dX0_setSize_13 : decode cX0_setSize 13 = .ok (.iload_n 2, 1) := by decide +kernel
theorem dX0_setSize_14 : decode cX0_setSize 14 = .ok (.iastore, 1) := by decide +kernel
theorem dX0_setSize_15 : decode cX0_setSize 15 = .ok (.return_, 1) := by decide +kernel
theorem dX0_swapHooks_0 : decode cX0_swapHooks 0 = .ok (.aload_n 0, 1) := by decide +kernel
theorem dX0_swapHooks_1 : decode cX0_swapHooks 1 = .ok (.iload_n 1, 1) := by decide +kernel
theorem dX0_swapHooks_2 : decode cX0_swapHooks 2 = .ok (.invokevirtual 67, 3) := by decide +kernel
theorem dX0_swapHooks_5 : decode cX0_swapHooks 5 = .ok (.ifCond .eq 37, 3) := by decide +kernel
theorem dX0_swapHooks_8 : decode cX0_swapHooks 8 = .ok (.aload_n 0, 1) := by decide +kernel
theorem dX0_swapHooks_9 : decode cX0_swapHooks 9 = .ok (.iload_n 2, 1) := by decide +kernel
theorem dX0_swapHooks_10 : decode cX0_swapHooks 10 = .ok (.invokevirtual 67, 3) := by decide +kernel
theorem dX0_swapHooks_13 : decode cX0_swapHooks 13 = .ok (.ifCond .eq 29, 3) := by decide +kernel
theorem dX0_swapHooks_16 : decode cX0_swapHooks 16 = .ok (.aload_n 0, 1) := by decide +kernel
theorem dX0_swapHooks_17 : decode cX0_swapHooks 17 = .ok (.getfield 18, 3) := by decide +kernel
theorem dX0_swapHooks_20 : decode cX0_swapHooks 20 = .ok (.iload_n 1, 1) := by decide +kernel
theorem dX0_swapHooks_21 : decode cX0_swapHooks 21 = .ok (.iaload, 1) := by decide +kernel
theorem dX0_swapHooks_22 : decode cX0_swapHooks 22 = .ok (.istore_n 3, 1) := by decide +kernel
theorem dX0_swapHooks_23 : decode cX0_swapHooks 23 = .ok (.aload_n 0, 1) := by decide +kernel
theorem dX0_swapHooks_24 : decode cX0_swapHooks 24 = .ok (.getfield 18, 3) := by decide +kernel
theorem dX0_swapHooks_27 : decode cX0_swapHooks 27 = .ok (.iload_n 1, 1) := by decide +kernel
theorem dX0_swapHooks_28 : decode cX0_swapHooks 28 = .ok (.aload_n 0, 1) := by decide +kernel
theorem dX0_swapHooks_29 : decode cX0_swapHooks 29 = .ok (.getfield 18, 3) := by decide +kernel
theorem dX0_swapHooks_32 : decode cX0_swapHooks 32 = .ok (.iload_n 2, 1) := by decide +kernel
theorem dX0_swapHooks_33 : decode cX0_swapHooks 33 = .ok (.iaload, 1) := by decide +kernel
theorem dX0_swapHooks_34 : decode cX0_swapHooks 34 = .ok (.iastore, 1) := by decide +kernel
theorem dX0_swapHooks_35 : decode cX0_swapHooks 35 = .ok (.aload_n 0, 1) := by decide +kernel
theorem dX0_swapHooks_36 : decode cX0_swapHooks 36 = .ok (.getfield 18, 3) := by decide +kernel
theorem dX0_swapHooks_39 : decode cX0_swapHooks 39 = .ok (.iload_n 2, 1) := by decide +kernel
theorem dX0_swapHooks_40 : decode cX0_swapHooks 40 = .ok (.iload_n 3, 1) := by decide +kernel
theorem dX0_swapHooks_41 : decode cX0_swapHooks 41 = .ok (.iastore, 1) := by decide +kernel
theorem dX0_swapHooks_42 : decode cX0_swapHooks 42 = .ok (.return_, 1) := by decide +kernel
theorem dX0_sizesTogether_0 : decode cX0_sizesTogether 0 = .ok (.iconst 0, 1) := by decide +kernel
theorem dX0_sizesTogether_1 : decode cX0_sizesTogether 1 = .ok (.istore_n 1, 1) := by decide +kernel
theorem dX0_sizesTogether_2 : decode cX0_sizesTogether 2 = .ok (.iconst 0, 1) := by decide +kernel
theorem dX0_sizesTogether_3 : decode cX0_sizesTogether 3 = .ok (.istore_n 2, 1) := by decide +kernel
theorem dX0_sizesTogether_4 : decode cX0_sizesTogether 4 = .ok (.iload_n 2, 1) := by decide +kernel
theorem dX0_sizesTogether_5 : decode cX0_sizesTogether 5 = .ok (.aload_n 0, 1) := by decide +kernel
theorem dX0_sizesTogether_6 : decode cX0_sizesTogether 6 = .ok (.getfield 40, 3) := by decide +kernel
theorem dX0_sizesTogether_9 : decode cX0_sizesTogether 9 = .ok (.if_icmp .ge 17, 3) := by decide +kernel
theorem dX0_sizesTogether_12 : decode cX0_sizesTogether 12 = .ok (.iload_n 1, 1) := by decide +kernel
theorem dX0_sizesTogether_13 : decode cX0_sizesTogether 13 = .ok (.aload_n 0, 1) := by decide +kernel
theorem dX0_sizesTogether_14 : decode cX0_sizesTogether 14 = .ok (.iload_n 2, 1) := by decide +kernel
theorem dX0_sizesTogether_15 : decode cX0_sizesTogether 15 = .ok (.invokevirtual 84, 3) := by decide +kernel
theorem dX0_sizesTogether_18 : decode cX0_sizesTogether 18 = .ok (.iadd, 1) := by decide +kernel
theorem dX0_sizesTogether_19 : decode cX0_sizesTogether 19 = .ok (.istore_n 1, 1) := by decide +kernel
theorem dX0_sizesTogether_20 : decode cX0_sizesTogether 20 = .ok (.iinc 2 1, 3) := by decide +kernel
theorem dX0_sizesTogether_23 : decode cX0_sizesTogether 23 = .ok (.goto (-19), 3) := by decide +kernel
theorem dX0_sizesTogether_26 : decode cX0_sizesTogether 26 = .ok (.iload_n 1, 1) := by decide +kernel
theorem dX0_sizesTogether_27 : decode cX0_sizesTogether 27 = .ok (.ireturn, 1) := by decide +kernel
theorem dX0_addBeat_0 : decode cX0_addBeat 0 = .ok (.aload_n 0, 1) := by decide +kernel
theorem dX0_addBeat_1 : decode cX0_addBeat 1 = .ok (.getfield 43, 3) := by decide +kernel
theorem dX0_addBeat_4 : decode cX0_addBeat 4 = .ok (.ifCond .lt 12, 3) := by decide +kernel
theorem dX0_addBeat_7 : decode cX0_addBeat 7 = .ok (.aload_n 0, 1) := by decide +kernel
theorem dX0_addBeat_8 : decode cX0_addBeat 8 = .ok (.getfield 43, 3) := by decide +kernel
theorem dX0_addBeat_11 : decode cX0_addBeat 11 = .ok (.bipush 12, 2) := by decide +kernel
theorem dX0_addBeat_13 : decode cX0_addBeat 13 = .ok (.if_icmp .lt 5, 3) := by decide +kernel
theorem dX0_addBeat_16 : decode cX0_addBeat 16 = .ok (.iconst (-1), 1) := by decide +kernel
theorem dX0_addBeat_17 : decode cX0_addBeat 17 = .ok (.ireturn, 1) := by decide +kernel
theorem dX0_addBeat_18 : decode cX0_addBeat 18 = .ok (.aload_n 0, 1) := by decide +kernel
theorem dX0_addBeat_19 : decode cX0_addBeat 19 = .ok (.getfield 21, 3) := by decide +kernel
theorem dX0_addBeat_22 : decode cX0_addBeat 22 = .ok (.aload_n 0, 1) := by decide +kernel
theorem dX0_addBeat_23 : decode cX0_addBeat 23 = .ok (.getfield 43, 3) := by decide +kernel
theorem dX0_addBeat_26 : decode cX0_addBeat 26 = .ok (.iload_n 1, 1) := by decide +kernel
theorem dX0_addBeat_27 : decode cX0_addBeat 27 = .ok (.iastore, 1) := by decide +kernel
theorem dX0_addBeat_28 : decode cX0_addBeat 28 = .ok (.aload_n 0, 1) := by decide +kernel
theorem dX0_addBeat_29 : decode cX0_addBeat 29 = .ok (.getfield 24, 3) := by decide +kernel
theorem dX0_addBeat_32 : decode cX0_addBeat 32 = .ok (.aload_n 0, 1) := by decide +kernel
theorem dX0_addBeat_33 : decode cX0_addBeat 33 = .ok (.getfield 43, 3) := by decide +kernel
theorem dX0_addBeat_36 : decode cX0_addBeat 36 = .ok (.iload_n 2, 1) := by decide +kernel
theorem dX0_addBeat_37 : decode cX0_addBeat 37 = .ok (.iastore, 1) := by decide +kernel
theorem dX0_addBeat_38 : decode cX0_addBeat 38 = .ok (.aload_n 0, 1) := by decide +kernel
theorem dX0_addBeat_39 : decode cX0_addBeat 39 = .ok (.dup, 1) := by decide +kernel
theorem dX0_addBeat_40 : decode cX0_addBeat 40 = .ok (.getfield 43, 3) := by decide +kernel
theorem dX0_addBeat_43 : decode cX0_addBeat 43 = .ok (.iconst 1, 1) := by decide +kernel
theorem dX0_addBeat_44 : decode cX0_addBeat 44 = .ok (.iadd, 1) := by decide +kernel
theorem dX0_addBeat_45 : decode cX0_addBeat 45 = .ok (.putfield 43, 3) := by decide +kernel
theorem dX0_addBeat_48 : decode cX0_addBeat 48 = .ok (.aload_n 0, 1) := by decide +kernel
theorem dX0_addBeat_49 : decode cX0_addBeat 49 = .ok (.getfield 43, 3) := by decide +kernel
theorem dX0_addBeat_52 : decode cX0_addBeat 52 = .ok (.iconst 1, 1) := by decide +kernel
theorem dX0_addBeat_53 : decode cX0_addBeat 53 = .ok (.isub, 1) := by decide +kernel
theorem dX0_addBeat_54 : decode cX0_addBeat 54 = .ok (.ireturn, 1) := by decide +kernel
theorem dX0_castOf_0 : decode cX0_castOf 0 = .ok (.aload_n 0, 1) := by decide +kernel
theorem dX0_castOf_1 : decode cX0_castOf 1 = .ok (.iload_n 1, 1) := by decide +kernel
theorem dX0_castOf_2 : decode cX0_castOf 2 = .ok (.invokevirtual 87, 3) := by decide +kernel
theorem dX0_castOf_5 : decode cX0_castOf 5 = .ok (.ifCond .eq 12, 3) := by decide +kernel
theorem dX0_castOf_8 : decode cX0_castOf 8 = .ok (.aload_n 0, 1) := by decide +kernel
theorem dX0_castOf_9 : decode cX0_castOf 9 = .ok (.getfield 21, 3) := by decide +kernel
theorem dX0_castOf_12 : decode cX0_castOf 12 = .ok (.iload_n 1, 1) := by decide +kernel
theorem dX0_castOf_13 : decode cX0_castOf 13 = .ok (.iaload, 1) := by decide +kernel
theorem dX0_castOf_14 : decode cX0_castOf 14 = .ok (.goto 4, 3) := by decide +kernel
theorem dX0_castOf_17 : decode cX0_castOf 17 = .ok (.iconst 0, 1) := by decide +kernel
theorem dX0_castOf_18 : decode cX0_castOf 18 = .ok (.ireturn, 1) := by decide +kernel
theorem dX0_speakerOf_0 : decode cX0_speakerOf 0 = .ok (.aload_n 0, 1) := by decide +kernel
theorem dX0_speakerOf_1 : decode cX0_speakerOf 1 = .ok (.iload_n 1, 1) := by decide +kernel
theorem dX0_speakerOf_2 : decode cX0_speakerOf 2 = .ok (.invokevirtual 87, 3) := by decide +kernel
theorem dX0_speakerOf_5 : decode cX0_speakerOf 5 = .ok (.ifCond .eq 12, 3) := by decide +kernel
theorem dX0_speakerOf_8 : decode cX0_speakerOf 8 = .ok (.aload_n 0, 1) := by decide +kernel
theorem dX0_speakerOf_9 : decode cX0_speakerOf 9 = .ok (.getfield 24, 3) := by decide +kernel
theorem dX0_speakerOf_12 : decode cX0_speakerOf 12 = .ok (.iload_n 1, 1) := by decide +kernel
theorem dX0_speakerOf_13 : decode cX0_speakerOf 13 = .ok (.iaload, 1) := by decide +kernel
theorem dX0_speakerOf_14 : decode cX0_speakerOf 14 = .ok (.goto 4, 3) := by decide +kernel
theorem dX0_speakerOf_17 : decode cX0_speakerOf 17 = .ok (.iconst (-1), 1) := by decide +kernel
theorem dX0_speakerOf_18 : decode cX0_speakerOf 18 = .ok (.ireturn, 1) := by decide +kernel
theorem dX0_setCast_0 : decode cX0_setCast 0 = .ok (.aload_n 0, 1) := by decide +kernel
theorem dX0_setCast_1 : decode cX0_setCast 1 = .ok (.iload_n 1, 1) := by decide +kernel
theorem dX0_setCast_2 : decode cX0_setCast 2 = .ok (.invokevirtual 87, 3) := by decide +kernel
theorem dX0_setCast_5 : decode cX0_setCast 5 = .ok (.ifCond .eq 10, 3) := by decide +kernel
theorem dX0_setCast_8 : decode cX0_setCast 8 = .ok (.aload_n 0, 1) := by decide +kernel
theorem dX0_setCast_9 : decode cX0_setCast 9 = .ok (.getfield 21, 3) := by decide +kernel
theorem dX0_setCast_12 : decode cX0_setCast 12 = .ok (.iload_n 1, 1) := by decide +kernel
theorem dX0_setCast_13 : decode cX0_setCast 13 = .ok (.iload_n 2, 1) := by decide +kernel
theorem dX0_setCast_14 : decode cX0_setCast 14 = .ok (.iastore, 1) := by decide +kernel
theorem dX0_setCast_15 : decode cX0_setCast 15 = .ok (.return_, 1) := by decide +kernel
theorem dX0_setSpeaker_0 : decode cX0_setSpeaker 0 = .ok (.aload_n 0, 1) := by decide +kernel
theorem dX0_setSpeaker_1 : decode cX0_setSpeaker 1 = .ok (.iload_n 1, 1) := by decide +kernel
theorem dX0_setSpeaker_2 : decode cX0_setSpeaker 2 = .ok (.invokevirtual 87, 3) := by decide +kernel
theorem dX0_setSpeaker_5 : decode cX0_setSpeaker 5 = .ok (.ifCond .eq 10, 3) := by decide +kernel
theorem dX0_setSpeaker_8 : decode cX0_setSpeaker 8 = .ok (.aload_n 0, 1) := by decide +kernel
theorem dX0_setSpeaker_9 : decode cX0_setSpeaker 9 = .ok (.getfield 24, 3) := by decide +kernel
theorem dX0_setSpeaker_12 : decode cX0_setSpeaker 12 = .ok (.iload_n 1, 1) := by decide +kernel
theorem dX0_setSpeaker_13 : decode cX0_setSpeaker 13 = .ok (.iload_n 2, 1) := by decide +kernel
theorem dX0_setSpeaker_14 : decode cX0_setSpeaker 14 = .ok (.iastore, 1) := by decide +kernel
theorem dX0_setSpeaker_15 : decode cX0_setSpeaker 15 = .ok (.return_, 1) := by decide +kernel
theorem dX0_dropBeat_0 : decode cX0_dropBeat 0 = .ok (.aload_n 0, 1) := by decide +kernel
theorem dX0_dropBeat_1 : decode cX0_dropBeat 1 = .ok (.iload_n 1, 1) := by decide +kernel
theorem dX0_dropBeat_2 : decode cX0_dropBeat 2 = .ok (.invokevirtual 87, 3) := by decide +kernel
theorem dX0_dropBeat_5 : decode cX0_dropBeat 5 = .ok (.ifCond .ne 4, 3) := by decide +kernel
theorem dX0_dropBeat_8 : decode cX0_dropBeat 8 = .ok (.return_, 1) := by decide +kernel
theorem dX0_dropBeat_9 : decode cX0_dropBeat 9 = .ok (.iload_n 1, 1) := by decide +kernel
theorem dX0_dropBeat_10 : decode cX0_dropBeat 10 = .ok (.istore_n 2, 1) := by decide +kernel
theorem dX0_dropBeat_11 : decode cX0_dropBeat 11 = .ok (.iload_n 2, 1) := by decide +kernel
theorem dX0_dropBeat_12 : decode cX0_dropBeat 12 = .ok (.aload_n 0, 1) := by decide +kernel
theorem dX0_dropBeat_13 : decode cX0_dropBeat 13 = .ok (.getfield 43, 3) := by decide +kernel
theorem dX0_dropBeat_16 : decode cX0_dropBeat 16 = .ok (.iconst 1, 1) := by decide +kernel
theorem dX0_dropBeat_17 : decode cX0_dropBeat 17 = .ok (.isub, 1) := by decide +kernel
theorem dX0_dropBeat_18 : decode cX0_dropBeat 18 = .ok (.if_icmp .ge 33, 3) := by decide +kernel
theorem dX0_dropBeat_21 : decode cX0_dropBeat 21 = .ok (.aload_n 0, 1) := by decide +kernel
theorem dX0_dropBeat_22 : decode cX0_dropBeat 22 = .ok (.iload_n 2, 1) := by decide +kernel
theorem dX0_dropBeat_23 : decode cX0_dropBeat 23 = .ok (.aload_n 0, 1) := by decide +kernel
theorem dX0_dropBeat_24 : decode cX0_dropBeat 24 = .ok (.iload_n 2, 1) := by decide +kernel
theorem dX0_dropBeat_25 : decode cX0_dropBeat 25 = .ok (.iconst 1, 1) := by decide +kernel
theorem dX0_dropBeat_26 : decode cX0_dropBeat 26 = .ok (.iadd, 1) := by decide +kernel
theorem dX0_dropBeat_27 : decode cX0_dropBeat 27 = .ok (.invokevirtual 90, 3) := by decide +kernel
theorem dX0_dropBeat_30 : decode cX0_dropBeat 30 = .ok (.invokevirtual 93, 3) := by decide +kernel
theorem dX0_dropBeat_33 : decode cX0_dropBeat 33 = .ok (.aload_n 0, 1) := by decide +kernel
theorem dX0_dropBeat_34 : decode cX0_dropBeat 34 = .ok (.iload_n 2, 1) := by decide +kernel
theorem dX0_dropBeat_35 : decode cX0_dropBeat 35 = .ok (.aload_n 0, 1) := by decide +kernel
theorem dX0_dropBeat_36 : decode cX0_dropBeat 36 = .ok (.iload_n 2, 1) := by decide +kernel
theorem dX0_dropBeat_37 : decode cX0_dropBeat 37 = .ok (.iconst 1, 1) := by decide +kernel
theorem dX0_dropBeat_38 : decode cX0_dropBeat 38 = .ok (.iadd, 1) := by decide +kernel
theorem dX0_dropBeat_39 : decode cX0_dropBeat 39 = .ok (.invokevirtual 97, 3) := by decide +kernel
theorem dX0_dropBeat_42 : decode cX0_dropBeat 42 = .ok (.invokevirtual 100, 3) := by decide +kernel
theorem dX0_dropBeat_45 : decode cX0_dropBeat 45 = .ok (.iinc 2 1, 3) := by decide +kernel
theorem dX0_dropBeat_48 : decode cX0_dropBeat 48 = .ok (.goto (-37), 3) := by decide +kernel
theorem dX0_dropBeat_51 : decode cX0_dropBeat 51 = .ok (.aload_n 0, 1) := by decide +kernel
theorem dX0_dropBeat_52 : decode cX0_dropBeat 52 = .ok (.dup, 1) := by decide +kernel
theorem dX0_dropBeat_53 : decode cX0_dropBeat 53 = .ok (.getfield 43, 3) := by decide +kernel
theorem dX0_dropBeat_56 : decode cX0_dropBeat 56 = .ok (.iconst 1, 1) := by decide +kernel
theorem dX0_dropBeat_57 : decode cX0_dropBeat 57 = .ok (.isub, 1) := by decide +kernel
theorem dX0_dropBeat_58 : decode cX0_dropBeat 58 = .ok (.putfield 43, 3) := by decide +kernel
theorem dX0_dropBeat_61 : decode cX0_dropBeat 61 = .ok (.return_, 1) := by decide +kernel
theorem dX0_keepBeats_0 : decode cX0_keepBeats 0 = .ok (.aload_n 0, 1) := by decide +kernel
theorem dX0_keepBeats_1 : decode cX0_keepBeats 1 = .ok (.getfield 43, 3) := by decide +kernel
theorem dX0_keepBeats_4 : decode cX0_keepBeats 4 = .ok (.iconst 1, 1) := by decide +kernel
theorem dX0_keepBeats_5 : decode cX0_keepBeats 5 = .ok (.isub, 1) := by decide +kernel
theorem dX0_keepBeats_6 : decode cX0_keepBeats 6 = .ok (.istore_n 3, 1) := by decide +kernel
theorem dX0_keepBeats_7 : decode cX0_keepBeats 7 = .ok (.iload_n 3, 1) := by decide +kernel
theorem dX0_keepBeats_8 : decode cX0_keepBeats 8 = .ok (.ifCond .lt 24, 3) := by decide +kernel
theorem dX0_keepBeats_11 : decode cX0_keepBeats 11 = .ok (.iload_n 3, 1) := by decide +kernel
theorem dX0_keepBeats_12 : decode cX0_keepBeats 12 = .ok (.iload_n 1, 1) := by decide +kernel
theorem dX0_keepBeats_13 : decode cX0_keepBeats 13 = .ok (.if_icmp .lt 8, 3) := by decide +kernel
theorem dX0_keepBeats_16 : decode cX0_keepBeats 16 = .ok (.iload_n 3, 1) := by decide +kernel
theorem dX0_keepBeats_17 : decode cX0_keepBeats 17 = .ok (.iload_n 2, 1) := by decide +kernel
theorem dX0_keepBeats_18 : decode cX0_keepBeats 18 = .ok (.if_icmp .le 8, 3) := by decide +kernel
theorem dX0_keepBeats_21 : decode cX0_keepBeats 21 = .ok (.aload_n 0, 1) := by decide +kernel
theorem dX0_keepBeats_22 : decode cX0_keepBeats 22 = .ok (.iload_n 3, 1) := by decide +kernel
theorem dX0_keepBeats_23 : decode cX0_keepBeats 23 = .ok (.invokevirtual 103, 3) := by decide +kernel
theorem dX0_keepBeats_26 : decode cX0_keepBeats 26 = .ok (.iinc 3 (-1), 3) := by decide +kernel
theorem dX0_keepBeats_29 : decode cX0_keepBeats 29 = .ok (.goto (-22), 3) := by decide +kernel
theorem dX0_keepBeats_32 : decode cX0_keepBeats 32 = .ok (.return_, 1) := by decide +kernel
theorem dX0_dropWrongBeats_0 : decode cX0_dropWrongBeats 0 = .ok (.aload_n 0, 1) := by decide +kernel
theorem dX0_dropWrongBeats_1 : decode cX0_dropWrongBeats 1 = .ok (.getfield 43, 3) := by decide +kernel
theorem dX0_dropWrongBeats_4 : decode cX0_dropWrongBeats 4 = .ok (.iconst 1, 1) := by decide +kernel
theorem dX0_dropWrongBeats_5 : decode cX0_dropWrongBeats 5 = .ok (.isub, 1) := by decide +kernel
theorem dX0_dropWrongBeats_6 : decode cX0_dropWrongBeats 6 = .ok (.istore_n 1, 1) := by decide +kernel
theorem dX0_dropWrongBeats_7 : decode cX0_dropWrongBeats 7 = .ok (.iload_n 1, 1) := by decide +kernel
theorem dX0_dropWrongBeats_8 : decode cX0_dropWrongBeats 8 = .ok (.ifCond .lt 22, 3) := by decide +kernel
theorem dX0_dropWrongBeats_11 : decode cX0_dropWrongBeats 11 = .ok (.aload_n 0, 1) := by decide +kernel
theorem dX0_dropWrongBeats_12 : decode cX0_dropWrongBeats 12 = .ok (.iload_n 1, 1) := by decide +kernel
theorem dX0_dropWrongBeats_13 : decode cX0_dropWrongBeats 13 = .ok (.invokevirtual 107, 3) := by decide +kernel
theorem dX0_dropWrongBeats_16 : decode cX0_dropWrongBeats 16 = .ok (.ifCond .eq 8, 3) := by decide +kernel
theorem dX0_dropWrongBeats_19 : decode cX0_dropWrongBeats 19 = .ok (.aload_n 0, 1) := by decide +kernel
theorem dX0_dropWrongBeats_20 : decode cX0_dropWrongBeats 20 = .ok (.iload_n 1, 1) := by decide +kernel
theorem dX0_dropWrongBeats_21 : decode cX0_dropWrongBeats 21 = .ok (.invokevirtual 103, 3) := by decide +kernel
theorem dX0_dropWrongBeats_24 : decode cX0_dropWrongBeats 24 = .ok (.iinc 1 (-1), 3) := by decide +kernel
theorem dX0_dropWrongBeats_27 : decode cX0_dropWrongBeats 27 = .ok (.goto (-20), 3) := by decide +kernel
theorem dX0_dropWrongBeats_30 : decode cX0_dropWrongBeats 30 = .ok (.return_, 1) := by decide +kernel
theorem dX0_isWrong_0 : decode cX0_isWrong 0 = .ok (.aload_n 0, 1) := by decide +kernel
theorem dX0_isWrong_1 : decode cX0_isWrong 1 = .ok (.iload_n 1, 1) := by decide +kernel
theorem dX0_isWrong_2 : decode cX0_isWrong 2 = .ok (.invokevirtual 90, 3) := by decide +kernel
theorem dX0_isWrong_5 : decode cX0_isWrong 5 = .ok (.istore_n 2, 1) := by decide +kernel
theorem dX0_isWrong_6 : decode cX0_isWrong 6 = .ok (.aload_n 0, 1) := by decide +kernel
theorem dX0_isWrong_7 : decode cX0_isWrong 7 = .ok (.iload_n 1, 1) := by decide +kernel
theorem dX0_isWrong_8 : decode cX0_isWrong 8 = .ok (.invokevirtual 97, 3) := by decide +kernel
theorem dX0_isWrong_11 : decode cX0_isWrong 11 = .ok (.istore_n 3, 1) := by decide +kernel
theorem dX0_isWrong_12 : decode cX0_isWrong 12 = .ok (.iload_n 3, 1) := by decide +kernel
theorem dX0_isWrong_13 : decode cX0_isWrong 13 = .ok (.iconst (-1), 1) := by decide +kernel
theorem dX0_isWrong_14 : decode cX0_isWrong 14 = .ok (.if_icmp .eq 13, 3) := by decide +kernel
theorem dX0_isWrong_17 : decode cX0_isWrong 17 = .ok (.iload_n 2, 1) := by decide +kernel
theorem dX0_isWrong_18 : decode cX0_isWrong 18 = .ok (.iload_n 3, 1) := by decide +kernel
theorem dX0_isWrong_19 : decode cX0_isWrong 19 = .ok (.invokestatic 110, 3) := by decide +kernel
theorem dX0_isWrong_22 : decode cX0_isWrong 22 = .ok (.ifCond .ne 5, 3) := by decide +kernel
theorem dX0_isWrong_25 : decode cX0_isWrong 25 = .ok (.iconst 1, 1) := by decide +kernel
theorem dX0_isWrong_26 : decode cX0_isWrong 26 = .ok (.ireturn, 1) := by decide +kernel
theorem dX0_isWrong_27 : decode cX0_isWrong 27 = .ok (.iload_n 2, 1) := by decide +kernel
theorem dX0_isWrong_28 : decode cX0_isWrong 28 = .ok (.invokestatic 114, 3) := by decide +kernel
theorem dX0_isWrong_31 : decode cX0_isWrong 31 = .ok (.iconst 2, 1) := by decide +kernel
theorem dX0_isWrong_32 : decode cX0_isWrong 32 = .ok (.if_icmp .le 5, 3) := by decide +kernel
theorem dX0_isWrong_35 : decode cX0_isWrong 35 = .ok (.iconst 1, 1) := by decide +kernel
theorem dX0_isWrong_36 : decode cX0_isWrong 36 = .ok (.ireturn, 1) := by decide +kernel
theorem dX0_isWrong_37 : decode cX0_isWrong 37 = .ok (.aload_n 0, 1) := by decide +kernel
theorem dX0_isWrong_38 : decode cX0_isWrong 38 = .ok (.iload_n 2, 1) := by decide +kernel
theorem dX0_isWrong_39 : decode cX0_isWrong 39 = .ok (.iconst 1, 1) := by decide +kernel
theorem dX0_isWrong_40 : decode cX0_isWrong 40 = .ok (.invokevirtual 119, 3) := by decide +kernel
theorem dX0_isWrong_43 : decode cX0_isWrong 43 = .ok (.iconst 1, 1) := by decide +kernel
theorem dX0_isWrong_44 : decode cX0_isWrong 44 = .ok (.if_icmp .gt 13, 3) := by decide +kernel
theorem dX0_isWrong_47 : decode cX0_isWrong 47 = .ok (.aload_n 0, 1) := by decide +kernel
theorem dX0_isWrong_48 : decode cX0_isWrong 48 = .ok (.iload_n 2, 1) := by decide +kernel
theorem dX0_isWrong_49 : decode cX0_isWrong 49 = .ok (.iconst 2, 1) := by decide +kernel
theorem dX0_isWrong_50 : decode cX0_isWrong 50 = .ok (.invokevirtual 119, 3) := by decide +kernel
theorem dX0_isWrong_53 : decode cX0_isWrong 53 = .ok (.iconst 1, 1) := by decide +kernel
theorem dX0_isWrong_54 : decode cX0_isWrong 54 = .ok (.if_icmp .le 7, 3) := by decide +kernel
theorem dX0_isWrong_57 : decode cX0_isWrong 57 = .ok (.iconst 1, 1) := by decide +kernel
theorem dX0_isWrong_58 : decode cX0_isWrong 58 = .ok (.goto 4, 3) := by decide +kernel
theorem dX0_isWrong_61 : decode cX0_isWrong 61 = .ok (.iconst 0, 1) := by decide +kernel
theorem dX0_isWrong_62 : decode cX0_isWrong 62 = .ok (.ireturn, 1) := by decide +kernel
theorem dX0_wanting_0 : decode cX0_wanting 0 = .ok (.iconst 0, 1) := by decide +kernel
theorem dX0_wanting_1 : decode cX0_wanting 1 = .ok (.istore_n 3, 1) := by decide +kernel
theorem dX0_wanting_2 : decode cX0_wanting 2 = .ok (.iconst 0, 1) := by decide +kernel
theorem dX0_wanting_3 : decode cX0_wanting 3 = .ok (.istore 4, 2) := by decide +kernel
theorem dX0_wanting_5 : decode cX0_wanting 5 = .ok (.iload 4, 2) := by decide +kernel
theorem dX0_wanting_7 : decode cX0_wanting 7 = .ok (.aload_n 0, 1) := by decide +kernel
theorem dX0_wanting_8 : decode cX0_wanting 8 = .ok (.getfield 40, 3) := by decide +kernel
theorem dX0_wanting_11 : decode cX0_wanting 11 = .ok (.if_icmp .ge 31, 3) := by decide +kernel
theorem dX0_wanting_14 : decode cX0_wanting 14 = .ok (.iload_n 1, 1) := by decide +kernel
theorem dX0_wanting_15 : decode cX0_wanting 15 = .ok (.iload 4, 2) := by decide +kernel
theorem dX0_wanting_17 : decode cX0_wanting 17 = .ok (.invokestatic 110, 3) := by decide +kernel
theorem dX0_wanting_20 : decode cX0_wanting 20 = .ok (.ifCond .eq 16, 3) := by decide +kernel
theorem dX0_wanting_23 : decode cX0_wanting 23 = .ok (.aload_n 0, 1) := by decide +kernel
theorem dX0_wanting_24 : decode cX0_wanting 24 = .ok (.iload 4, 2) := by decide +kernel
theorem dX0_wanting_26 : decode cX0_wanting 26 = .ok (.invokevirtual 122, 3) := by decide +kernel
theorem dX0_wanting_29 : decode cX0_wanting 29 = .ok (.iload_n 2, 1) := by decide +kernel
theorem dX0_wanting_30 : decode cX0_wanting 30 = .ok (.if_icmp .ne 6, 3) := by decide +kernel
theorem dX0_wanting_33 : decode cX0_wanting 33 = .ok (.iinc 3 1, 3) := by decide +kernel
theorem dX0_wanting_36 : decode cX0_wanting 36 = .ok (.iinc 4 1, 3) := by decide +kernel
theorem dX0_wanting_39 : decode cX0_wanting 39 = .ok (.goto (-34), 3) := by decide +kernel
theorem dX0_wanting_42 : decode cX0_wanting 42 = .ok (.iload_n 3, 1) := by decide +kernel
theorem dX0_wanting_43 : decode cX0_wanting 43 = .ok (.ireturn, 1) := by decide +kernel
theorem dX0_wrongBeats_0 : decode cX0_wrongBeats 0 = .ok (.iconst 0, 1) := by decide +kernel
theorem dX0_wrongBeats_1 : decode cX0_wrongBeats 1 = .ok (.istore_n 1, 1) := by decide +kernel
theorem dX0_wrongBeats_2 : decode cX0_wrongBeats 2 = .ok (.iconst 0, 1) := by decide +kernel
theorem dX0_wrongBeats_3 : decode cX0_wrongBeats 3 = .ok (.istore_n 2, 1) := by decide +kernel
theorem dX0_wrongBeats_4 : decode cX0_wrongBeats 4 = .ok (.iload_n 2, 1) := by decide +kernel
theorem dX0_wrongBeats_5 : decode cX0_wrongBeats 5 = .ok (.aload_n 0, 1) := by decide +kernel
theorem dX0_wrongBeats_6 : decode cX0_wrongBeats 6 = .ok (.getfield 43, 3) := by decide +kernel
theorem dX0_wrongBeats_9 : decode cX0_wrongBeats 9 = .ok (.if_icmp .ge 23, 3) := by decide +kernel
theorem dX0_wrongBeats_12 : decode cX0_wrongBeats 12 = .ok (.aload_n 0, 1) := by decide +kernel
theorem dX0_wrongBeats_13 : decode cX0_wrongBeats 13 = .ok (.iload_n 2, 1) := by decide +kernel
theorem dX0_wrongBeats_14 : decode cX0_wrongBeats 14 = .ok (.invokevirtual 107, 3) := by decide +kernel
theorem dX0_wrongBeats_17 : decode cX0_wrongBeats 17 = .ok (.ifCond .eq 9, 3) := by decide +kernel
theorem dX0_wrongBeats_20 : decode cX0_wrongBeats 20 = .ok (.iload_n 1, 1) := by decide +kernel
theorem dX0_wrongBeats_21 : decode cX0_wrongBeats 21 = .ok (.iconst 1, 1) := by decide +kernel
theorem dX0_wrongBeats_22 : decode cX0_wrongBeats 22 = .ok (.iload_n 2, 1) := by decide +kernel
theorem dX0_wrongBeats_23 : decode cX0_wrongBeats 23 = .ok (.ishl, 1) := by decide +kernel
theorem dX0_wrongBeats_24 : decode cX0_wrongBeats 24 = .ok (.ior, 1) := by decide +kernel
theorem dX0_wrongBeats_25 : decode cX0_wrongBeats 25 = .ok (.istore_n 1, 1) := by decide +kernel
theorem dX0_wrongBeats_26 : decode cX0_wrongBeats 26 = .ok (.iinc 2 1, 3) := by decide +kernel
theorem dX0_wrongBeats_29 : decode cX0_wrongBeats 29 = .ok (.goto (-25), 3) := by decide +kernel
theorem dX0_wrongBeats_32 : decode cX0_wrongBeats 32 = .ok (.iload_n 1, 1) := by decide +kernel
theorem dX0_wrongBeats_33 : decode cX0_wrongBeats 33 = .ok (.ireturn, 1) := by decide +kernel
theorem dX0_isGoing_0 : decode cX0_isGoing 0 = .ok (.aload_n 0, 1) := by decide +kernel
theorem dX0_isGoing_1 : decode cX0_isGoing 1 = .ok (.invokevirtual 125, 3) := by decide +kernel
theorem dX0_isGoing_4 : decode cX0_isGoing 4 = .ok (.ifCond .ne 7, 3) := by decide +kernel
theorem dX0_isGoing_7 : decode cX0_isGoing 7 = .ok (.iconst 1, 1) := by decide +kernel
theorem dX0_isGoing_8 : decode cX0_isGoing 8 = .ok (.goto 4, 3) := by decide +kernel
theorem dX0_isGoing_11 : decode cX0_isGoing 11 = .ok (.iconst 0, 1) := by decide +kernel
theorem dX0_isGoing_12 : decode cX0_isGoing 12 = .ok (.ireturn, 1) := by decide +kernel
theorem dX0_areTogether_0 : decode cX0_areTogether 0 = .ok (.iconst 0, 1) := by decide +kernel
theorem dX0_areTogether_1 : decode cX0_areTogether 1 = .ok (.istore_n 3, 1) := by decide +kernel
theorem dX0_areTogether_2 : decode cX0_areTogether 2 = .ok (.iload_n 3, 1) := by decide +kernel
theorem dX0_areTogether_3 : decode cX0_areTogether 3 = .ok (.aload_n 0, 1) := by decide +kernel
theorem dX0_areTogether_4 : decode cX0_areTogether 4 = .ok (.getfield 43, 3) := by decide +kernel
theorem dX0_areTogether_7 : decode cX0_areTogether 7 = .ok (.if_icmp .ge 35, 3) := by decide +kernel
theorem dX0_areTogether_10 : decode cX0_areTogether 10 = .ok (.aload_n 0, 1) := by decide +kernel
theorem dX0_areTogether_11 : decode cX0_areTogether 11 = .ok (.iload_n 3, 1) := by decide +kernel
theorem dX0_areTogether_12 : decode cX0_areTogether 12 = .ok (.invokevirtual 90, 3) := by decide +kernel
theorem dX0_areTogether_15 : decode cX0_areTogether 15 = .ok (.iload_n 1, 1) := by decide +kernel
theorem dX0_areTogether_16 : decode cX0_areTogether 16 = .ok (.invokestatic 110, 3) := by decide +kernel
theorem dX0_areTogether_19 : decode cX0_areTogether 19 = .ok (.ifCond .eq 17, 3) := by decide +kernel
theorem dX0_areTogether_22 : decode cX0_areTogether 22 = .ok (.aload_n 0, 1) := by decide +kernel
theorem dX0_areTogether_23 : decode cX0_areTogether 23 = .ok (.iload_n 3, 1) := by decide +kernel
theorem dX0_areTogether_24 : decode cX0_areTogether 24 = .ok (.invokevirtual 90, 3) := by decide +kernel
theorem dX0_areTogether_27 : decode cX0_areTogether 27 = .ok (.iload_n 2, 1) := by decide +kernel
theorem dX0_areTogether_28 : decode cX0_areTogether 28 = .ok (.invokestatic 110, 3) := by decide +kernel
theorem dX0_areTogether_31 : decode cX0_areTogether 31 = .ok (.ifCond .eq 5, 3) := by decide +kernel
theorem dX0_areTogether_34 : decode cX0_areTogether 34 = .ok (.iconst 1, 1) := by decide +kernel
theorem dX0_areTogether_35 : decode cX0_areTogether 35 = .ok (.ireturn, 1) := by decide +kernel
theorem dX0_areTogether_36 : decode cX0_areTogether 36 = .ok (.iinc 3 1, 3) := by decide +kernel
theorem dX0_areTogether_39 : decode cX0_areTogether 39 = .ok (.goto (-37), 3) := by decide +kernel
theorem dX0_areTogether_42 : decode cX0_areTogether 42 = .ok (.iconst 0, 1) := by decide +kernel
theorem dX0_areTogether_43 : decode cX0_areTogether 43 = .ok (.ireturn, 1) := by decide +kernel
theorem dX0_replace_0 : decode cX0_replace 0 = .ok (.iconst 0, 1) := by decide +kernel
theorem dX0_replace_1 : decode cX0_replace 1 = .ok (.istore_n 3, 1) := by decide +kernel
theorem dX0_replace_2 : decode cX0_replace 2 = .ok (.iload_n 3, 1) := by decide +kernel
theorem dX0_replace_3 : decode cX0_replace 3 = .ok (.aload_n 0, 1) := by decide +kernel
theorem dX0_replace_4 : decode cX0_replace 4 = .ok (.getfield 43, 3) := by decide +kernel
theorem dX0_replace_7 : decode cX0_replace 7 = .ok (.if_icmp .ge 59, 3) := by decide +kernel
theorem dX0_replace_10 : decode cX0_replace 10 = .ok (.aload_n 0, 1) := by decide +kernel
theorem dX0_replace_11 : decode cX0_replace 11 = .ok (.iload_n 3, 1) := by decide +kernel
theorem dX0_replace_12 : decode cX0_replace 12 = .ok (.invokevirtual 90, 3) := by decide +kernel
theorem dX0_replace_15 : decode cX0_replace 15 = .ok (.istore 4, 2) := by decide +kernel
theorem dX0_replace_17 : decode cX0_replace 17 = .ok (.iload 4, 2) := by decide +kernel
theorem dX0_replace_19 : decode cX0_replace 19 = .ok (.iload_n 1, 1) := by decide +kernel
theorem dX0_replace_20 : decode cX0_replace 20 = .ok (.invokestatic 110, 3) := by decide +kernel
theorem dX0_replace_23 : decode cX0_replace 23 = .ok (.ifCond .eq 22, 3) := by decide +kernel
theorem dX0_replace_26 : decode cX0_replace 26 = .ok (.aload_n 0, 1) := by decide +kernel
theorem dX0_replace_27 : decode cX0_replace 27 = .ok (.iload_n 3, 1) := by decide +kernel
theorem dX0_replace_28 : decode cX0_replace 28 = .ok (.iload 4, 2) := by decide +kernel
theorem dX0_replace_30 : decode cX0_replace 30 = .ok (.iload_n 1, 1) := by decide +kernel
theorem dX0_replace_31 : decode cX0_replace 31 = .ok (.invokestatic 129, 3) := by decide +kernel
theorem dX0_replace_34 : decode cX0_replace 34 = .ok (.iconst (-1), 1) := by decide +kernel
theorem dX0_replace_35 : decode cX0_replace 35 = .ok (.ixor, 1) := by decide +kernel
theorem dX0_replace_36 : decode cX0_replace 36 = .ok (.iand, 1) := by decide +kernel
theorem dX0_replace_37 : decode cX0_replace 37 = .ok (.iload_n 2, 1) := by decide +kernel
theorem dX0_replace_38 : decode cX0_replace 38 = .ok (.invokestatic 129, 3) := by decide +kernel
theorem dX0_replace_41 : decode cX0_replace 41 = .ok (.ior, 1) := by decide +kernel
theorem dX0_replace_42 : decode cX0_replace 42 = .ok (.invokevirtual 93, 3) := by decide +kernel
theorem dX0_replace_45 : decode cX0_replace 45 = .ok (.aload_n 0, 1) := by decide +kernel
theorem dX0_replace_46 : decode cX0_replace 46 = .ok (.iload_n 3, 1) := by decide +kernel
theorem dX0_replace_47 : decode cX0_replace 47 = .ok (.invokevirtual 97, 3) := by decide +kernel
theorem dX0_replace_50 : decode cX0_replace 50 = .ok (.iload_n 1, 1) := by decide +kernel
theorem dX0_replace_51 : decode cX0_replace 51 = .ok (.if_icmp .ne 9, 3) := by decide +kernel
theorem dX0_replace_54 : decode cX0_replace 54 = .ok (.aload_n 0, 1) := by decide +kernel
theorem dX0_replace_55 : decode cX0_replace 55 = .ok (.iload_n 3, 1) := by decide +kernel
theorem dX0_replace_56 : decode cX0_replace 56 = .ok (.iload_n 2, 1) := by decide +kernel
theorem dX0_replace_57 : decode cX0_replace 57 = .ok (.invokevirtual 100, 3) := by decide +kernel
theorem dX0_replace_60 : decode cX0_replace 60 = .ok (.iinc 3 1, 3) := by decide +kernel
theorem dX0_replace_63 : decode cX0_replace 63 = .ok (.goto (-61), 3) := by decide +kernel
theorem dX0_replace_66 : decode cX0_replace 66 = .ok (.return_, 1) := by decide +kernel
theorem dX0_rightsBeside_0 : decode cX0_rightsBeside 0 = .ok (.aload_n 0, 1) := by decide +kernel
theorem dX0_rightsBeside_1 : decode cX0_rightsBeside 1 = .ok (.iload_n 1, 1) := by decide +kernel
theorem dX0_rightsBeside_2 : decode cX0_rightsBeside 2 = .ok (.invokevirtual 90, 3) := by decide +kernel
theorem dX0_rightsBeside_5 : decode cX0_rightsBeside 5 = .ok (.istore_n 3, 1) := by decide +kernel
theorem dX0_rightsBeside_6 : decode cX0_rightsBeside 6 = .ok (.aload_n 0, 1) := by decide +kernel
theorem dX0_rightsBeside_7 : decode cX0_rightsBeside 7 = .ok (.iload_n 2, 1) := by decide +kernel
theorem dX0_rightsBeside_8 : decode cX0_rightsBeside 8 = .ok (.invokevirtual 132, 3) := by decide +kernel
theorem dX0_rightsBeside_11 : decode cX0_rightsBeside 11 = .ok (.ifCond .ne 5, 3) := by decide +kernel
theorem dX0_rightsBeside_14 : decode cX0_rightsBeside 14 = .ok (.iconst 0, 1) := by decide +kernel
theorem dX0_rightsBeside_15 : decode cX0_rightsBeside 15 = .ok (.ireturn, 1) := by decide +kernel
theorem dX0_rightsBeside_16 : decode cX0_rightsBeside 16 = .ok (.iload_n 3, 1) := by decide +kernel
theorem dX0_rightsBeside_17 : decode cX0_rightsBeside 17 = .ok (.iload_n 2, 1) := by decide +kernel
theorem dX0_rightsBeside_18 : decode cX0_rightsBeside 18 = .ok (.invokestatic 110, 3) := by decide +kernel
theorem dX0_rightsBeside_21 : decode cX0_rightsBeside 21 = .ok (.ifCond .eq 14, 3) := by decide +kernel
theorem dX0_rightsBeside_24 : decode cX0_rightsBeside 24 = .ok (.aload_n 0, 1) := by decide +kernel
theorem dX0_rightsBeside_25 : decode cX0_rightsBeside 25 = .ok (.iload_n 2, 1) := by decide +kernel
theorem dX0_rightsBeside_26 : decode cX0_rightsBeside 26 = .ok (.invokevirtual 122, 3) := by decide +kernel
theorem dX0_rightsBeside_29 : decode cX0_rightsBeside 29 = .ok (.iconst 2, 1) := by decide +kernel
theorem dX0_rightsBeside_30 : decode cX0_rightsBeside 30 = .ok (.if_icmp .ne 5, 3) := by decide +kernel
theorem dX0_rightsBeside_33 : decode cX0_rightsBeside 33 = .ok (.iconst 0, 1) := by decide +kernel
theorem dX0_rightsBeside_34 : decode cX0_rightsBeside 34 = .ok (.ireturn, 1) := by decide +kernel
theorem dX0_rightsBeside_35 : decode cX0_rightsBeside 35 = .ok (.iload_n 3, 1) := by decide +kernel
theorem dX0_rightsBeside_36 : decode cX0_rightsBeside 36 = .ok (.iload_n 2, 1) := by decide +kernel
theorem dX0_rightsBeside_37 : decode cX0_rightsBeside 37 = .ok (.invokestatic 129, 3) := by decide +kernel
theorem dX0_rightsBeside_40 : decode cX0_rightsBeside 40 = .ok (.iconst (-1), 1) := by decide +kernel
theorem dX0_rightsBeside_41 : decode cX0_rightsBeside 41 = .ok (.ixor, 1) := by decide +kernel
theorem dX0_rightsBeside_42 : decode cX0_rightsBeside 42 = .ok (.iand, 1) := by decide +kernel
theorem dX0_rightsBeside_43 : decode cX0_rightsBeside 43 = .ok (.istore 4, 2) := by decide +kernel
theorem dX0_rightsBeside_45 : decode cX0_rightsBeside 45 = .ok (.iload 4, 2) := by decide +kernel
theorem dX0_rightsBeside_47 : decode cX0_rightsBeside 47 = .ok (.ifCond .ne 21, 3) := by decide +kernel
theorem dX0_rightsBeside_50 : decode cX0_rightsBeside 50 = .ok (.iconst 2, 1) := by decide +kernel
theorem dX0_rightsBeside_51 : decode cX0_rightsBeside 51 = .ok (.aload_n 0, 1) := by decide +kernel
theorem dX0_rightsBeside_52 : decode cX0_rightsBeside 52 = .ok (.getfield 40, 3) := by decide +kernel
theorem dX0_rightsBeside_55 : decode cX0_rightsBeside 55 = .ok (.ishl, 1) := by decide +kernel
theorem dX0_rightsBeside_56 : decode cX0_rightsBeside 56 = .ok (.iconst 1, 1) := by decide +kernel
theorem dX0_rightsBeside_57 : decode cX0_rightsBeside 57 = .ok (.isub, 1) := by decide +kernel
theorem dX0_rightsBeside_58 : decode cX0_rightsBeside 58 = .ok (.iconst 2, 1) := by decide +kernel
theorem dX0_rightsBeside_59 : decode cX0_rightsBeside 59 = .ok (.iload_n 2, 1) := by decide +kernel
theorem dX0_rightsBeside_60 : decode cX0_rightsBeside 60 = .ok (.invokestatic 129, 3) := by decide +kernel
theorem dX0_rightsBeside_63 : decode cX0_rightsBeside 63 = .ok (.imul, 1) := by decide +kernel
theorem dX0_rightsBeside_64 : decode cX0_rightsBeside 64 = .ok (.iconst (-1), 1) := by decide +kernel
theorem dX0_rightsBeside_65 : decode cX0_rightsBeside 65 = .ok (.ixor, 1) := by decide +kernel
theorem dX0_rightsBeside_66 : decode cX0_rightsBeside 66 = .ok (.iand, 1) := by decide +kernel
theorem dX0_rightsBeside_67 : decode cX0_rightsBeside 67 = .ok (.ireturn, 1) := by decide +kernel
theorem dX0_rightsBeside_68 : decode cX0_rightsBeside 68 = .ok (.iload 4, 2) := by decide +kernel
theorem dX0_rightsBeside_70 : decode cX0_rightsBeside 70 = .ok (.invokestatic 135, 3) := by decide +kernel
theorem dX0_rightsBeside_73 : decode cX0_rightsBeside 73 = .ok (.istore 5, 2) := by decide +kernel
theorem dX0_rightsBeside_75 : decode cX0_rightsBeside 75 = .ok (.iload 4, 2) := by decide +kernel
theorem dX0_rightsBeside_77 : decode cX0_rightsBeside 77 = .ok (.iload 5, 2) := by decide +kernel
theorem dX0_rightsBeside_79 : decode cX0_rightsBeside 79 = .ok (.invokestatic 129, 3) := by decide +kernel
theorem dX0_rightsBeside_82 : decode cX0_rightsBeside 82 = .ok (.if_icmp .ne 17, 3) := by decide +kernel
theorem dX0_rightsBeside_85 : decode cX0_rightsBeside 85 = .ok (.aload_n 0, 1) := by decide +kernel
theorem dX0_rightsBeside_86 : decode cX0_rightsBeside 86 = .ok (.iload 5, 2) := by decide +kernel
theorem dX0_rightsBeside_88 : decode cX0_rightsBeside 88 = .ok (.invokevirtual 122, 3) := by decide +kernel
theorem dX0_rightsBeside_91 : decode cX0_rightsBeside 91 = .ok (.iconst 1, 1) := by decide +kernel
theorem dX0_rightsBeside_92 : decode cX0_rightsBeside 92 = .ok (.if_icmp .eq 7, 3) := by decide +kernel
theorem dX0_rightsBeside_95 : decode cX0_rightsBeside 95 = .ok (.iconst 1, 1) := by decide +kernel
theorem dX0_rightsBeside_96 : decode cX0_rightsBeside 96 = .ok (.goto 4, 3) := by decide +kernel
theorem dX0_rightsBeside_99 : decode cX0_rightsBeside 99 = .ok (.iconst 0, 1) := by decide +kernel
theorem dX0_rightsBeside_100 : decode cX0_rightsBeside 100 = .ok (.istore 6, 2) := by decide +kernel
theorem dX0_rightsBeside_102 : decode cX0_rightsBeside 102 = .ok (.iload 6, 2) := by decide +kernel
theorem dX0_rightsBeside_104 : decode cX0_rightsBeside 104 = .ok (.ifCond .eq 10, 3) := by decide +kernel
theorem dX0_rightsBeside_107 : decode cX0_rightsBeside 107 = .ok (.iconst 2, 1) := by decide +kernel
theorem dX0_rightsBeside_108 : decode cX0_rightsBeside 108 = .ok (.iload 4, 2) := by decide +kernel
theorem dX0_rightsBeside_110 : decode cX0_rightsBeside 110 = .ok (.imul, 1) := by decide +kernel
theorem dX0_rightsBeside_111 : decode cX0_rightsBeside 111 = .ok (.goto 4, 3) := by decide +kernel
theorem dX0_rightsBeside_114 : decode cX0_rightsBeside 114 = .ok (.iconst 0, 1) := by decide +kernel
theorem dX0_rightsBeside_115 : decode cX0_rightsBeside 115 = .ok (.ireturn, 1) := by decide +kernel
theorem dX0_isSuited_0 : decode cX0_isSuited 0 = .ok (.aload_n 0, 1) := by decide +kernel
theorem dX0_isSuited_1 : decode cX0_isSuited 1 = .ok (.iload_n 3, 1) := by decide +kernel
theorem dX0_isSuited_2 : decode cX0_isSuited 2 = .ok (.invokevirtual 132, 3) := by decide +kernel
theorem dX0_isSuited_5 : decode cX0_isSuited 5 = .ok (.ifCond .eq 22, 3) := by decide +kernel
theorem dX0_isSuited_8 : decode cX0_isSuited 8 = .ok (.aload_n 0, 1) := by decide +kernel
theorem dX0_isSuited_9 : decode cX0_isSuited 9 = .ok (.iload_n 1, 1) := by decide +kernel
theorem dX0_isSuited_10 : decode cX0_isSuited 10 = .ok (.iload_n 2, 1) := by decide +kernel
theorem dX0_isSuited_11 : decode cX0_isSuited 11 = .ok (.invokevirtual 138, 3) := by decide +kernel
theorem dX0_isSuited_14 : decode cX0_isSuited 14 = .ok (.iload_n 3, 1) := by decide +kernel
theorem dX0_isSuited_15 : decode cX0_isSuited 15 = .ok (.iconst 1, 1) := by decide +kernel
theorem dX0_isSuited_16 : decode cX0_isSuited 16 = .ok (.iadd, 1) := by decide +kernel
theorem dX0_isSuited_17 : decode cX0_isSuited 17 = .ok (.invokestatic 110, 3) := by decide +kernel
theorem dX0_isSuited_20 : decode cX0_isSuited 20 = .ok (.ifCond .eq 7, 3) := by decide +kernel
theorem dX0_isSuited_23 : decode cX0_isSuited 23 = .ok (.iconst 1, 1) := by decide +kernel
theorem dX0_isSuited_24 : decode cX0_isSuited 24 = .ok (.goto 4, 3) := by decide +kernel
theorem dX0_isSuited_27 : decode cX0_isSuited 27 = .ok (.iconst 0, 1) := by decide +kernel
theorem dX0_isSuited_28 : decode cX0_isSuited 28 = .ok (.ireturn, 1) := by decide +kernel
theorem dX0_bit_0 : decode cX0_bit 0 = .ok (.iload_n 0, 1) := by decide +kernel
theorem dX0_bit_1 : decode cX0_bit 1 = .ok (.iconst (-1), 1) := by decide +kernel
theorem dX0_bit_2 : decode cX0_bit 2 = .ok (.if_icmp .ne 7, 3) := by decide +kernel
theorem dX0_bit_5 : decode cX0_bit 5 = .ok (.iconst 0, 1) := by decide +kernel
theorem dX0_bit_6 : decode cX0_bit 6 = .ok (.goto 6, 3) := by decide +kernel
theorem dX0_bit_9 : decode cX0_bit 9 = .ok (.iconst 1, 1) := by decide +kernel
theorem dX0_bit_10 : decode cX0_bit 10 = .ok (.iload_n 0, 1) := by decide +kernel
theorem dX0_bit_11 : decode cX0_bit 11 = .ok (.ishl, 1) := by decide +kernel
theorem dX0_bit_12 : decode cX0_bit 12 = .ok (.ireturn, 1) := by decide +kernel
theorem dX0_contains_0 : decode cX0_contains 0 = .ok (.iload_n 0, 1) := by decide +kernel
theorem dX0_contains_1 : decode cX0_contains 1 = .ok (.iload_n 1, 1) := by decide +kernel
theorem dX0_contains_2 : decode cX0_contains 2 = .ok (.invokestatic 129, 3) := by decide +kernel
theorem dX0_contains_5 : decode cX0_contains 5 = .ok (.iand, 1) := by decide +kernel
theorem dX0_contains_6 : decode cX0_contains 6 = .ok (.ifCond .eq 7, 3) := by decide +kernel
theorem dX0_contains_9 : decode cX0_contains 9 = .ok (.iconst 1, 1) := by decide +kernel
theorem dX0_contains_10 : decode cX0_contains 10 = .ok (.goto 4, 3) := by decide +kernel
theorem dX0_contains_13 : decode cX0_contains 13 = .ok (.iconst 0, 1) := by decide +kernel
theorem dX0_contains_14 : decode cX0_contains 14 = .ok (.ireturn, 1) := by decide +kernel
theorem dX0_inHand_0 : decode cX0_inHand 0 = .ok (.iload_n 1, 1) := by decide +kernel
theorem dX0_inHand_1 : decode cX0_inHand 1 = .ok (.ifCond .ne 10, 3) := by decide +kernel
theorem dX0_inHand_4 : decode cX0_inHand 4 = .ok (.aload_n 0, 1) := by decide +kernel
theorem dX0_inHand_5 : decode cX0_inHand 5 = .ok (.getfield 30, 3) := by decide +kernel
theorem dX0_inHand_8 : decode cX0_inHand 8 = .ok (.goto 7, 3) := by decide +kernel
theorem dX0_inHand_11 : decode cX0_inHand 11 = .ok (.aload_n 0, 1) := by decide +kernel
theorem dX0_inHand_12 : decode cX0_inHand 12 = .ok (.getfield 34, 3) := by decide +kernel
theorem dX0_inHand_15 : decode cX0_inHand 15 = .ok (.ireturn, 1) := by decide +kernel
theorem dX0_putInHand_0 : decode cX0_putInHand 0 = .ok (.aload_n 0, 1) := by decide +kernel
theorem dX0_putInHand_1 : decode cX0_putInHand 1 = .ok (.iload_n 1, 1) := by decide +kernel
theorem dX0_putInHand_2 : decode cX0_putInHand 2 = .ok (.invokevirtual 141, 3) := by decide +kernel
theorem dX0_putInHand_5 : decode cX0_putInHand 5 = .ok (.istore_n 3, 1) := by decide +kernel
theorem dX0_putInHand_6 : decode cX0_putInHand 6 = .ok (.iload_n 3, 1) := by decide +kernel
theorem dX0_putInHand_7 : decode cX0_putInHand 7 = .ok (.iload_n 2, 1) := by decide +kernel
theorem dX0_putInHand_8 : decode cX0_putInHand 8 = .ok (.if_icmp .ne 5, 3) := by decide +kernel
theorem dX0_putInHand_11 : decode cX0_putInHand 11 = .ok (.iconst 0, 1) := by decide +kernel
theorem dX0_putInHand_12 : decode cX0_putInHand 12 = .ok (.ireturn, 1) := by decide +kernel
theorem dX0_putInHand_13 : decode cX0_putInHand 13 = .ok (.iload_n 1, 1) := by decide +kernel
theorem dX0_putInHand_14 : decode cX0_putInHand 14 = .ok (.ifCond .ne 11, 3) := by decide +kernel
theorem dX0_putInHand_17 : decode cX0_putInHand 17 = .ok (.aload_n 0, 1) := by decide +kernel
theorem dX0_putInHand_18 : decode cX0_putInHand 18 = .ok (.iload_n 2, 1) := by decide +kernel
theorem dX0_putInHand_19 : decode cX0_putInHand 19 = .ok (.putfield 30, 3) := by decide +kernel
theorem dX0_putInHand_22 : decode cX0_putInHand 22 = .ok (.goto 8, 3) := by decide +kernel
theorem dX0_putInHand_25 : decode cX0_putInHand 25 = .ok (.aload_n 0, 1) := by decide +kernel
theorem dX0_putInHand_26 : decode cX0_putInHand 26 = .ok (.iload_n 2, 1) := by decide +kernel
theorem dX0_putInHand_27 : decode cX0_putInHand 27 = .ok (.putfield 34, 3) := by decide +kernel
theorem dX0_putInHand_30 : decode cX0_putInHand 30 = .ok (.aload_n 0, 1) := by decide +kernel
theorem dX0_putInHand_31 : decode cX0_putInHand 31 = .ok (.iload_n 2, 1) := by decide +kernel
theorem dX0_putInHand_32 : decode cX0_putInHand 32 = .ok (.iconst 1, 1) := by decide +kernel
theorem dX0_putInHand_33 : decode cX0_putInHand 33 = .ok (.invokevirtual 144, 3) := by decide +kernel
theorem dX0_putInHand_36 : decode cX0_putInHand 36 = .ok (.istore 4, 2) := by decide +kernel
theorem dX0_putInHand_38 : decode cX0_putInHand 38 = .ok (.aload_n 0, 1) := by decide +kernel
theorem dX0_putInHand_39 : decode cX0_putInHand 39 = .ok (.dup, 1) := by decide +kernel
theorem dX0_putInHand_40 : decode cX0_putInHand 40 = .ok (.getfield 49, 3) := by decide +kernel
theorem dX0_putInHand_43 : decode cX0_putInHand 43 = .ok (.iconst 1, 1) := by decide +kernel
theorem dX0_putInHand_44 : decode cX0_putInHand 44 = .ok (.iadd, 1) := by decide +kernel
theorem dX0_putInHand_45 : decode cX0_putInHand 45 = .ok (.putfield 49, 3) := by decide +kernel
theorem dX0_putInHand_48 : decode cX0_putInHand 48 = .ok (.aload_n 0, 1) := by decide +kernel
theorem dX0_putInHand_49 : decode cX0_putInHand 49 = .ok (.dup, 1) := by decide +kernel
theorem dX0_putInHand_50 : decode cX0_putInHand 50 = .ok (.getfield 52, 3) := by decide +kernel
theorem dX0_putInHand_53 : decode cX0_putInHand 53 = .ok (.iload 4, 2) := by decide +kernel
theorem dX0_putInHand_55 : decode cX0_putInHand 55 = .ok (.iadd, 1) := by decide +kernel
theorem dX0_putInHand_56 : decode cX0_putInHand 56 = .ok (.putfield 52, 3) := by decide +kernel
theorem dX0_putInHand_59 : decode cX0_putInHand 59 = .ok (.iload 4, 2) := by decide +kernel
theorem dX0_putInHand_61 : decode cX0_putInHand 61 = .ok (.ireturn, 1) := by decide +kernel
theorem dX0_price_0 : decode cX0_price 0 = .ok (.iload_n 2, 1) := by decide +kernel
theorem dX0_price_1 : decode cX0_price 1 = .ok (.ifCond .eq 8, 3) := by decide +kernel
theorem dX0_price_4 : decode cX0_price 4 = .ok (.iload_n 1, 1) := by decide +kernel
theorem dX0_price_5 : decode cX0_price 5 = .ok (.iconst (-1), 1) := by decide +kernel
theorem dX0_price_6 : decode cX0_price 6 = .ok (.if_icmp .ne 5, 3) := by decide +kernel
theorem dX0_price_9 : decode cX0_price 9 = .ok (.iconst 1, 1) := by decide +kernel
theorem dX0_price_10 : decode cX0_price 10 = .ok (.ireturn, 1) := by decide +kernel
theorem dX0_price_11 : decode cX0_price 11 = .ok (.aload_n 0, 1) := by decide +kernel
theorem dX0_price_12 : decode cX0_price 12 = .ok (.iload_n 1, 1) := by decide +kernel
theorem dX0_price_13 : decode cX0_price 13 = .ok (.invokevirtual 147, 3) := by decide +kernel
theorem dX0_price_16 : decode cX0_price 16 = .ok (.aload_n 0, 1) := by decide +kernel
theorem dX0_price_17 : decode cX0_price 17 = .ok (.iload_n 1, 1) := by decide +kernel
theorem dX0_price_18 : decode cX0_price 18 = .ok (.invokevirtual 150, 3) := by decide +kernel
theorem dX0_price_21 : decode cX0_price 21 = .ok (.iadd, 1) := by decide +kernel
theorem dX0_price_22 : decode cX0_price 22 = .ok (.ireturn, 1) := by decide +kernel
theorem dX0_dogsIn_0 : decode cX0_dogsIn 0 = .ok (.iconst 0, 1) := by decide +kernel
theorem dX0_dogsIn_1 : decode cX0_dogsIn 1 = .ok (.istore_n 2, 1) := by decide +kernel
theorem dX0_dogsIn_2 : decode cX0_dogsIn 2 = .ok (.iconst 0, 1) := by decide +kernel
theorem dX0_dogsIn_3 : decode cX0_dogsIn 3 = .ok (.istore_n 3, 1) := by decide +kernel
theorem dX0_dogsIn_4 : decode cX0_dogsIn 4 = .ok (.iload_n 3, 1) := by decide +kernel
theorem dX0_dogsIn_5 : decode cX0_dogsIn 5 = .ok (.aload_n 0, 1) := by decide +kernel
theorem dX0_dogsIn_6 : decode cX0_dogsIn 6 = .ok (.getfield 40, 3) := by decide +kernel
theorem dX0_dogsIn_9 : decode cX0_dogsIn 9 = .ok (.if_icmp .ge 36, 3) := by decide +kernel
theorem dX0_dogsIn_12 : decode cX0_dogsIn 12 = .ok (.aload_n 0, 1) := by decide +kernel
theorem dX0_dogsIn_13 : decode cX0_dogsIn 13 = .ok (.iload_n 1, 1) := by decide +kernel
theorem dX0_dogsIn_14 : decode cX0_dogsIn 14 = .ok (.invokevirtual 90, 3) := by decide +kernel
theorem dX0_dogsIn_17 : decode cX0_dogsIn 17 = .ok (.iload_n 3, 1) := by decide +kernel
theorem dX0_dogsIn_18 : decode cX0_dogsIn 18 = .ok (.invokestatic 110, 3) := by decide +kernel
theorem dX0_dogsIn_21 : decode cX0_dogsIn 21 = .ok (.ifCond .eq 18, 3) := by decide +kernel
theorem dX0_dogsIn_24 : decode cX0_dogsIn 24 = .ok (.aload_n 0, 1) := by decide +kernel
theorem dX0_dogsIn_25 : decode cX0_dogsIn 25 = .ok (.iload_n 3, 1) := by decide +kernel
theorem dX0_dogsIn_26 : decode cX0_dogsIn 26 = .ok (.invokevirtual 153, 3) := by decide +kernel
theorem dX0_dogsIn_29 : decode cX0_dogsIn 29 = .ok (.iconst 5, 1) := by decide +kernel
theorem dX0_dogsIn_30 : decode cX0_dogsIn 30 = .ok (.invokestatic 156, 3) := by decide +kernel
theorem dX0_dogsIn_33 : decode cX0_dogsIn 33 = .ok (.ifCond .eq 6, 3) := by decide +kernel
theorem dX0_dogsIn_36 : decode cX0_dogsIn 36 = .ok (.iinc 2 1, 3) := by decide +kernel
theorem dX0_dogsIn_39 : decode cX0_dogsIn 39 = .ok (.iinc 3 1, 3) := by decide +kernel
theorem dX0_dogsIn_42 : decode cX0_dogsIn 42 = .ok (.goto (-38), 3) := by decide +kernel
theorem dX0_dogsIn_45 : decode cX0_dogsIn 45 = .ok (.iload_n 2, 1) := by decide +kernel
theorem dX0_dogsIn_46 : decode cX0_dogsIn 46 = .ok (.ireturn, 1) := by decide +kernel
theorem dX0_dogsInAll_0 : decode cX0_dogsInAll 0 = .ok (.iconst 0, 1) := by decide +kernel
theorem dX0_dogsInAll_1 : decode cX0_dogsInAll 1 = .ok (.istore_n 1, 1) := by decide +kernel
theorem dX0_dogsInAll_2 : decode cX0_dogsInAll 2 = .ok (.iconst 0, 1) := by decide +kernel
theorem dX0_dogsInAll_3 : decode cX0_dogsInAll 3 = .ok (.istore_n 2, 1) := by decide +kernel
theorem dX0_dogsInAll_4 : decode cX0_dogsInAll 4 = .ok (.iload_n 2, 1) := by decide +kernel
theorem dX0_dogsInAll_5 : decode cX0_dogsInAll 5 = .ok (.aload_n 0, 1) := by decide +kernel
theorem dX0_dogsInAll_6 : decode cX0_dogsInAll 6 = .ok (.getfield 43, 3) := by decide +kernel
theorem dX0_dogsInAll_9 : decode cX0_dogsInAll 9 = .ok (.if_icmp .ge 17, 3) := by decide +kernel
theorem dX0_dogsInAll_12 : decode cX0_dogsInAll 12 = .ok (.iload_n 1, 1) := by decide +kernel
theorem dX0_dogsInAll_13 : decode cX0_dogsInAll 13 = .ok (.aload_n 0, 1) := by decide +kernel
theorem dX0_dogsInAll_14 : decode cX0_dogsInAll 14 = .ok (.iload_n 2, 1) := by decide +kernel
theorem dX0_dogsInAll_15 : decode cX0_dogsInAll 15 = .ok (.invokevirtual 159, 3) := by decide +kernel
theorem dX0_dogsInAll_18 : decode cX0_dogsInAll 18 = .ok (.iadd, 1) := by decide +kernel
theorem dX0_dogsInAll_19 : decode cX0_dogsInAll 19 = .ok (.istore_n 1, 1) := by decide +kernel
theorem dX0_dogsInAll_20 : decode cX0_dogsInAll 20 = .ok (.iinc 2 1, 3) := by decide +kernel
theorem dX0_dogsInAll_23 : decode cX0_dogsInAll 23 = .ok (.goto (-19), 3) := by decide +kernel
theorem dX0_dogsInAll_26 : decode cX0_dogsInAll 26 = .ok (.iload_n 1, 1) := by decide +kernel
theorem dX0_dogsInAll_27 : decode cX0_dogsInAll 27 = .ok (.ireturn, 1) := by decide +kernel
theorem dX0_drawEvening_0 : decode cX0_drawEvening 0 = .ok (.iconst 0, 1) := by decide +kernel
theorem dX0_drawEvening_1 : decode cX0_drawEvening 1 = .ok (.istore_n 1, 1) := by decide +kernel
theorem dX0_drawEvening_2 : decode cX0_drawEvening 2 = .ok (.iconst 0, 1) := by decide +kernel
theorem dX0_drawEvening_3 : decode cX0_drawEvening 3 = .ok (.istore_n 2, 1) := by decide +kernel
theorem dX0_drawEvening_4 : decode cX0_drawEvening 4 = .ok (.iload_n 2, 1) := by decide +kernel
theorem dX0_drawEvening_5 : decode cX0_drawEvening 5 = .ok (.aload_n 0, 1) := by decide +kernel
theorem dX0_drawEvening_6 : decode cX0_drawEvening 6 = .ok (.getfield 43, 3) := by decide +kernel
theorem dX0_drawEvening_9 : decode cX0_drawEvening 9 = .ok (.if_icmp .ge 58, 3) := by decide +kernel
theorem dX0_drawEvening_12 : decode cX0_drawEvening 12 = .ok (.aload_n 0, 1) := by decide +kernel
theorem dX0_drawEvening_13 : decode cX0_drawEvening 13 = .ok (.iload_n 2, 1) := by decide +kernel
theorem dX0_drawEvening_14 : decode cX0_drawEvening 14 = .ok (.invokevirtual 159, 3) := by decide +kernel
theorem dX0_drawEvening_17 : decode cX0_drawEvening 17 = .ok (.istore_n 3, 1) := by decide +kernel
theorem dX0_drawEvening_18 : decode cX0_drawEvening 18 = .ok (.iconst 0, 1) := by decide +kernel
theorem dX0_drawEvening_19 : decode cX0_drawEvening 19 = .ok (.istore 4, 2) := by decide +kernel
theorem dX0_drawEvening_21 : decode cX0_drawEvening 21 = .ok (.iconst 0, 1) := by decide +kernel
theorem dX0_drawEvening_22 : decode cX0_drawEvening 22 = .ok (.istore 5, 2) := by decide +kernel
theorem dX0_drawEvening_24 : decode cX0_drawEvening 24 = .ok (.iload 5, 2) := by decide +kernel
theorem dX0_drawEvening_26 : decode cX0_drawEvening 26 = .ok (.iload_n 3, 1) := by decide +kernel
theorem dX0_drawEvening_27 : decode cX0_drawEvening 27 = .ok (.if_icmp .ge 26, 3) := by decide +kernel
theorem dX0_drawEvening_30 : decode cX0_drawEvening 30 = .ok (.aload_n 0, 1) := by decide +kernel
theorem dX0_drawEvening_31 : decode cX0_drawEvening 31 = .ok (.invokevirtual 162, 3) := by decide +kernel
theorem dX0_drawEvening_34 : decode cX0_drawEvening 34 = .ok (.bipush 10, 2) := by decide +kernel
theorem dX0_drawEvening_36 : decode cX0_drawEvening 36 = .ok (.irem, 1) := by decide +kernel
theorem dX0_drawEvening_37 : decode cX0_drawEvening 37 = .ok (.aload_n 0, 1) := by decide +kernel
theorem dX0_drawEvening_38 : decode cX0_drawEvening 38 = .ok (.getfield 46, 3) := by decide +kernel
theorem dX0_drawEvening_41 : decode cX0_drawEvening 41 = .ok (.if_icmp .ge 6, 3) := by decide +kernel
theorem dX0_drawEvening_44 : decode cX0_drawEvening 44 = .ok (.iconst 1, 1) := by decide +kernel
theorem dX0_drawEvening_45 : decode cX0_drawEvening 45 = .ok (.istore 4, 2) := by decide +kernel
theorem dX0_drawEvening_47 : decode cX0_drawEvening 47 = .ok (.iinc 5 1, 3) := by decide +kernel
theorem dX0_drawEvening_50 : decode cX0_drawEvening 50 = .ok (.goto (-26), 3) := by decide +kernel
theorem dX0_drawEvening_53 : decode cX0_drawEvening 53 = .ok (.iload 4, 2) := by decide +kernel
theorem dX0_drawEvening_55 : decode cX0_drawEvening 55 = .ok (.ifCond .eq 6, 3) := by decide +kernel
theorem dX0_drawEvening_58 : decode cX0_drawEvening 58 = .ok (.iinc 1 1, 3) := by decide +kernel
theorem dX0_drawEvening_61 : decode cX0_drawEvening 61 = .ok (.iinc 2 1, 3) := by decide +kernel
theorem dX0_drawEvening_64 : decode cX0_drawEvening 64 = .ok (.goto (-60), 3) := by decide +kernel
theorem dX0_drawEvening_67 : decode cX0_drawEvening 67 = .ok (.iload_n 1, 1) := by decide +kernel
theorem dX0_drawEvening_68 : decode cX0_drawEvening 68 = .ok (.ireturn, 1) := by decide +kernel
theorem dX0_draw_0 : decode cX0_draw 0 = .ok (.aload_n 0, 1) := by decide +kernel
theorem dX0_draw_1 : decode cX0_draw 1 = .ok (.aload_n 0, 1) := by decide +kernel
theorem dX0_draw_2 : decode cX0_draw 2 = .ok (.getfield 37, 3) := by decide +kernel
theorem dX0_draw_5 : decode cX0_draw 5 = .ok (.ldc 165, 2) := by decide +kernel
theorem dX0_draw_7 : decode cX0_draw 7 = .ok (.imul, 1) := by decide +kernel
theorem dX0_draw_8 : decode cX0_draw 8 = .ok (.sipush 12345, 3) := by decide +kernel
theorem dX0_draw_11 : decode cX0_draw 11 = .ok (.iadd, 1) := by decide +kernel
theorem dX0_draw_12 : decode cX0_draw 12 = .ok (.putfield 37, 3) := by decide +kernel
theorem dX0_draw_15 : decode cX0_draw 15 = .ok (.aload_n 0, 1) := by decide +kernel
theorem dX0_draw_16 : decode cX0_draw 16 = .ok (.getfield 37, 3) := by decide +kernel
theorem dX0_draw_19 : decode cX0_draw 19 = .ok (.bipush 8, 2) := by decide +kernel
theorem dX0_draw_21 : decode cX0_draw 21 = .ok (.iushr, 1) := by decide +kernel
theorem dX0_draw_22 : decode cX0_draw 22 = .ok (.ireturn, 1) := by decide +kernel
theorem dX0_spotOf_0 : decode cX0_spotOf 0 = .ok (.aload_n 0, 1) := by decide +kernel
theorem dX0_spotOf_1 : decode cX0_spotOf 1 = .ok (.iload_n 1, 1) := by decide +kernel
theorem dX0_spotOf_2 : decode cX0_spotOf 2 = .ok (.invokevirtual 166, 3) := by decide +kernel
theorem dX0_spotOf_5 : decode cX0_spotOf 5 = .ok (.ifCond .eq 12, 3) := by decide +kernel
theorem dX0_spotOf_8 : decode cX0_spotOf 8 = .ok (.aload_n 0, 1) := by decide +kernel
theorem dX0_spotOf_9 : decode cX0_spotOf 9 = .ok (.getfield 27, 3) := by decide +kernel
theorem dX0_spotOf_12 : decode cX0_spotOf 12 = .ok (.iload_n 1, 1) := by decide +kernel
theorem dX0_spotOf_13 : decode cX0_spotOf 13 = .ok (.iaload, 1) := by decide +kernel
theorem dX0_spotOf_14 : decode cX0_spotOf 14 = .ok (.goto 4, 3) := by decide +kernel
theorem dX0_spotOf_17 : decode cX0_spotOf 17 = .ok (.iconst (-1), 1) := by decide +kernel
theorem dX0_spotOf_18 : decode cX0_spotOf 18 = .ok (.ireturn, 1) := by decide +kernel
theorem dX0_setSpot_0 : decode cX0_setSpot 0 = .ok (.aload_n 0, 1) := by decide +kernel
theorem dX0_setSpot_1 : decode cX0_setSpot 1 = .ok (.iload_n 1, 1) := by decide +kernel
theorem dX0_setSpot_2 : decode cX0_setSpot 2 = .ok (.invokevirtual 166, 3) := by decide +kernel
theorem dX0_setSpot_5 : decode cX0_setSpot 5 = .ok (.ifCond .eq 10, 3) := by decide +kernel
theorem dX0_setSpot_8 : decode cX0_setSpot 8 = .ok (.aload_n 0, 1) := by decide +kernel
theorem dX0_setSpot_9 : decode cX0_setSpot 9 = .ok (.getfield 27, 3) := by decide +kernel
theorem dX0_setSpot_12 : decode cX0_setSpot 12 = .ok (.iload_n 1, 1) := by decide +kernel
theorem dX0_setSpot_13 : decode cX0_setSpot 13 = .ok (.iload_n 2, 1) := by decide +kernel
theorem dX0_setSpot_14 : decode cX0_setSpot 14 = .ok (.iastore, 1) := by decide +kernel
theorem dX0_setSpot_15 : decode cX0_setSpot 15 = .ok (.return_, 1) := by decide +kernel
theorem dX0_spotsInUse_0 : decode cX0_spotsInUse 0 = .ok (.iconst 0, 1) := by decide +kernel
theorem dX0_spotsInUse_1 : decode cX0_spotsInUse 1 = .ok (.istore_n 1, 1) := by decide +kernel
theorem dX0_spotsInUse_2 : decode cX0_spotsInUse 2 = .ok (.iconst 0, 1) := by decide +kernel
theorem dX0_spotsInUse_3 : decode cX0_spotsInUse 3 = .ok (.istore_n 2, 1) := by decide +kernel
theorem dX0_spotsInUse_4 : decode cX0_spotsInUse 4 = .ok (.iload_n 2, 1) := by decide +kernel
theorem dX0_spotsInUse_5 : decode cX0_spotsInUse 5 = .ok (.aload_n 0, 1) := by decide +kernel
theorem dX0_spotsInUse_6 : decode cX0_spotsInUse 6 = .ok (.getfield 27, 3) := by decide +kernel
theorem dX0_spotsInUse_9 : decode cX0_spotsInUse 9 = .ok (.arraylength, 1) := by decide +kernel
theorem dX0_spotsInUse_10 : decode cX0_spotsInUse 10 = .ok (.if_icmp .ge 22, 3) := by decide +kernel
theorem dX0_spotsInUse_13 : decode cX0_spotsInUse 13 = .ok (.aload_n 0, 1) := by decide +kernel
theorem dX0_spotsInUse_14 : decode cX0_spotsInUse 14 = .ok (.getfield 27, 3) := by decide +kernel
theorem dX0_spotsInUse_17 : decode cX0_spotsInUse 17 = .ok (.iload_n 2, 1) := by decide +kernel
theorem dX0_spotsInUse_18 : decode cX0_spotsInUse 18 = .ok (.iaload, 1) := by decide +kernel
theorem dX0_spotsInUse_19 : decode cX0_spotsInUse 19 = .ok (.iconst (-1), 1) := by decide +kernel
theorem dX0_spotsInUse_20 : decode cX0_spotsInUse 20 = .ok (.if_icmp .eq 6, 3) := by decide +kernel
theorem dX0_spotsInUse_23 : decode cX0_spotsInUse 23 = .ok (.iinc 1 1, 3) := by decide +kernel
theorem dX0_spotsInUse_26 : decode cX0_spotsInUse 26 = .ok (.iinc 2 1, 3) := by decide +kernel
theorem dX0_spotsInUse_29 : decode cX0_spotsInUse 29 = .ok (.goto (-25), 3) := by decide +kernel
theorem dX0_spotsInUse_32 : decode cX0_spotsInUse 32 = .ok (.iload_n 1, 1) := by decide +kernel
theorem dX0_spotsInUse_33 : decode cX0_spotsInUse 33 = .ok (.ireturn, 1) := by decide +kernel
theorem dX1_isKind_0 : decode cX1_isKind 0 = .ok (.iload_n 0, 1) := by decide +kernel
theorem dX1_isKind_1 : decode cX1_isKind 1 = .ok (.ifCond .lt 13, 3) := by decide +kernel
theorem dX1_isKind_4 : decode cX1_isKind 4 = .ok (.iload_n 0, 1) := by decide +kernel
theorem dX1_isKind_5 : decode cX1_isKind 5 = .ok (.bipush 7, 2) := by decide +kernel
theorem dX1_isKind_7 : decode cX1_isKind 7 = .ok (.if_icmp .ge 7, 3) := by decide +kernel
theorem dX1_isKind_10 : decode cX1_isKind 10 = .ok (.iconst 1, 1) := by decide +kernel
theorem dX1_isKind_11 : decode cX1_isKind 11 = .ok (.goto 4, 3) := by decide +kernel
theorem dX1_isKind_14 : decode cX1_isKind 14 = .ok (.iconst 0, 1) := by decide +kernel
theorem dX1_isKind_15 : decode cX1_isKind 15 = .ok (.ireturn, 1) := by decide +kernel
theorem dX1_isUnder_0 : decode cX1_isUnder 0 = .ok (.iload_n 0, 1) := by decide +kernel
theorem dX1_isUnder_1 : decode cX1_isUnder 1 = .ok (.istore_n 2, 1) := by decide +kernel
theorem dX1_isUnder_2 : decode cX1_isUnder 2 = .ok (.iconst 0, 1) := by decide +kernel
theorem dX1_isUnder_3 : decode cX1_isUnder 3 = .ok (.istore_n 3, 1) := by decide +kernel
theorem dX1_isUnder_4 : decode cX1_isUnder 4 = .ok (.iload_n 3, 1) := by decide +kernel
theorem dX1_isUnder_5 : decode cX1_isUnder 5 = .ok (.bipush 7, 2) := by decide +kernel
theorem dX1_isUnder_7 : decode cX1_isUnder 7 = .ok (.if_icmp .ge 29, 3) := by decide +kernel
theorem dX1_isUnder_10 : decode cX1_isUnder 10 = .ok (.iload_n 2, 1) := by decide +kernel
theorem dX1_isUnder_11 : decode cX1_isUnder 11 = .ok (.invokestatic 9, 3) := by decide +kernel
theorem dX1_isUnder_14 : decode cX1_isUnder 14 = .ok (.ifCond .eq 22, 3) := by decide +kernel
theorem dX1_isUnder_17 : decode cX1_isUnder 17 = .ok (.iload_n 2, 1) := by decide +kernel
theorem dX1_isUnder_18 : decode cX1_isUnder 18 = .ok (.iload_n 1, 1) := by decide +kernel
theorem dX1_isUnder_19 : decode cX1_isUnder 19 = .ok (.if_icmp .ne 5, 3) := by decide +kernel
theorem dX1_isUnder_22 : decode cX1_isUnder 22 = .ok (.iconst 1, 1) := by decide +kernel
theorem dX1_isUnder_23 : decode cX1_isUnder 23 = .ok (.ireturn, 1) := by decide +kernel
theorem dX1_isUnder_24 : decode cX1_isUnder 24 = .ok (.getstatic 13, 3) := by decide +kernel
theorem dX1_isUnder_27 : decode cX1_isUnder 27 = .ok (.iload_n 2, 1) := by decide +kernel
theorem dX1_isUnder_28 : decode cX1_isUnder 28 = .ok (.iaload, 1) := by decide +kernel
theorem dX1_isUnder_29 : decode cX1_isUnder 29 = .ok (.istore_n 2, 1) := by decide +kernel
theorem dX1_isUnder_30 : decode cX1_isUnder 30 = .ok (.iinc 3 1, 3) := by decide +kernel
theorem dX1_isUnder_33 : decode cX1_isUnder 33 = .ok (.goto (-29), 3) := by decide +kernel
theorem dX1_isUnder_36 : decode cX1_isUnder 36 = .ok (.iconst 0, 1) := by decide +kernel
theorem dX1_isUnder_37 : decode cX1_isUnder 37 = .ok (.ireturn, 1) := by decide +kernel
theorem dX1_wanted_0 : decode cX1_wanted 0 = .ok (.iload_n 0, 1) := by decide +kernel
theorem dX1_wanted_1 : decode cX1_wanted 1 = .ok (.tableswitch 35 1 4 #[31, 35, 33, 33], 31) := by decide +kernel
theorem dX1_wanted_32 : decode cX1_wanted 32 = .ok (.iconst 2, 1) := by decide +kernel
