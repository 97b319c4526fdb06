theorem dX5_plays_0 : decode cX5_plays 0 = .ok (.aload_n 0, 1) := by decide +kernel
theorem dX5_plays_1 : decode cX5_plays 1 = .ok (.getfield 10, 3) := by decide +kernel
theorem dX5_plays_4 : decode cX5_plays 4 = .ok (.getfield 113, 3) := by decide +kernel
theorem dX5_plays_7 : decode cX5_plays 7 = .ok (.ifCond .eq 13, 3) := by decide +kernel
theorem dX5_plays_10 : decode cX5_plays 10 = .ok (.aload_n 0, 1) := by decide +kernel
theorem dX5_plays_11 : decode cX5_plays 11 = .ok (.getfield 10, 3) := by decide +kernel
theorem dX5_plays_14 : decode cX5_plays 14 = .ok (.invokevirtual 181, 3) := by decide +kernel
theorem dX5_plays_17 : decode cX5_plays 17 = .ok (.ifCond .ne 10, 3) := by decide +kernel
theorem dX5_plays_20 : decode cX5_plays 20 = .ok (.aload_n 0, 1) := by decide +kernel
theorem dX5_plays_21 : decode cX5_plays 21 = .ok (.ldc 152, 2) := by decide +kernel
theorem dX5_plays_23 : decode cX5_plays 23 = .ok (.invokevirtual 58, 3) := by decide +kernel
theorem dX5_plays_26 : decode cX5_plays 26 = .ok (.ireturn, 1) := by decide +kernel
theorem dX5_plays_27 : decode cX5_plays 27 = .ok (.aload_n 0, 1) := by decide +kernel
theorem dX5_plays_28 : decode cX5_plays 28 = .ok (.getfield 25, 3) := by decide +kernel
theorem dX5_plays_31 : decode cX5_plays 31 = .ok (.aload_n 0, 1) := by decide +kernel
theorem dX5_plays_32 : decode cX5_plays 32 = .ok (.getfield 10, 3) := by decide +kernel
theorem dX5_plays_35 : decode cX5_plays 35 = .ok (.iconst 0, 1) := by decide +kernel
theorem dX5_plays_36 : decode cX5_plays 36 = .ok (.invokevirtual 189, 3) := by decide +kernel
theorem dX5_plays_39 : decode cX5_plays 39 = .ok (.iconst 0, 1) := by decide +kernel
theorem dX5_plays_40 : decode cX5_plays 40 = .ok (.istore_n 1, 1) := by decide +kernel
theorem dX5_plays_41 : decode cX5_plays 41 = .ok (.iload_n 1, 1) := by decide +kernel
theorem dX5_plays_42 : decode cX5_plays 42 = .ok (.aload_n 0, 1) := by decide +kernel
theorem dX5_plays_43 : decode cX5_plays 43 = .ok (.getfield 10, 3) := by decide +kernel
theorem dX5_plays_46 : decode cX5_plays 46 = .ok (.getfield 113, 3) := by decide +kernel
theorem dX5_plays_49 : decode cX5_plays 49 = .ok (.if_icmp .ge 43, 3) := by decide +kernel
theorem dX5_plays_52 : decode cX5_plays 52 = .ok (.aload_n 0, 1) := by decide +kernel
theorem dX5_plays_53 : decode cX5_plays 53 = .ok (.getfield 10, 3) := by decide +kernel
theorem dX5_plays_56 : decode cX5_plays 56 = .ok (.iconst 0, 1) := by decide +kernel
theorem dX5_plays_57 : decode cX5_plays 57 = .ok (.aload_n 0, 1) := by decide +kernel
theorem dX5_plays_58 : decode cX5_plays 58 = .ok (.getfield 25, 3) := by decide +kernel
theorem dX5_plays_61 : decode cX5_plays 61 = .ok (.iload_n 1, 1) := by decide +kernel
theorem dX5_plays_62 : decode cX5_plays 62 = .ok (.invokevirtual 193, 3) := by decide +kernel
theorem dX5_plays_65 : decode cX5_plays 65 = .ok (.invokevirtual 153, 3) := by decide +kernel
theorem dX5_plays_68 : decode cX5_plays 68 = .ok (.pop, 1) := by decide +kernel
theorem dX5_plays_69 : decode cX5_plays 69 = .ok (.aload_n 0, 1) := by decide +kernel
theorem dX5_plays_70 : decode cX5_plays 70 = .ok (.getfield 10, 3) := by decide +kernel
theorem dX5_plays_73 : decode cX5_plays 73 = .ok (.iconst 1, 1) := by decide +kernel
theorem dX5_plays_74 : decode cX5_plays 74 = .ok (.aload_n 0, 1) := by decide +kernel
theorem dX5_plays_75 : decode cX5_plays 75 = .ok (.getfield 25, 3) := by decide +kernel
theorem dX5_plays_78 : decode cX5_plays 78 = .ok (.iload_n 1, 1) := by decide +kernel
theorem dX5_plays_79 : decode cX5_plays 79 = .ok (.invokevirtual 196, 3) := by decide +kernel
theorem dX5_plays_82 : decode cX5_plays 82 = .ok (.invokevirtual 153, 3) := by decide +kernel
theorem dX5_plays_85 : decode cX5_plays 85 = .ok (.pop, 1) := by decide +kernel
theorem dX5_plays_86 : decode cX5_plays 86 = .ok (.iinc 1 1, 3) := by decide +kernel
theorem dX5_plays_89 : decode cX5_plays 89 = .ok (.goto (-48), 3) := by decide +kernel
theorem dX5_plays_92 : decode cX5_plays 92 = .ok (.aload_n 0, 1) := by decide +kernel
theorem dX5_plays_93 : decode cX5_plays 93 = .ok (.getfield 10, 3) := by decide +kernel
theorem dX5_plays_96 : decode cX5_plays 96 = .ok (.invokevirtual 254, 3) := by decide +kernel
theorem dX5_plays_99 : decode cX5_plays 99 = .ok (.istore_n 1, 1) := by decide +kernel
theorem dX5_plays_100 : decode cX5_plays 100 = .ok (.aload_n 0, 1) := by decide +kernel
theorem dX5_plays_101 : decode cX5_plays 101 = .ok (.getfield 10, 3) := by decide +kernel
theorem dX5_plays_104 : decode cX5_plays 104 = .ok (.dup, 1) := by decide +kernel
theorem dX5_plays_105 : decode cX5_plays 105 = .ok (.getfield 172, 3) := by decide +kernel
theorem dX5_plays_108 : decode cX5_plays 108 = .ok (.aload_n 0, 1) := by decide +kernel
theorem dX5_plays_109 : decode cX5_plays 109 = .ok (.getfield 10, 3) := by decide +kernel
theorem dX5_plays_112 : decode cX5_plays 112 = .ok (.getfield 113, 3) := by decide +kernel
theorem dX5_plays_115 : decode cX5_plays 115 = .ok (.iadd, 1) := by decide +kernel
theorem dX5_plays_116 : decode cX5_plays 116 = .ok (.putfield 172, 3) := by decide +kernel
theorem dX5_plays_119 : decode cX5_plays 119 = .ok (.aload_n 0, 1) := by decide +kernel
theorem dX5_plays_120 : decode cX5_plays 120 = .ok (.getfield 10, 3) := by decide +kernel
theorem dX5_plays_123 : decode cX5_plays 123 = .ok (.dup, 1) := by decide +kernel
theorem dX5_plays_124 : decode cX5_plays 124 = .ok (.getfield 175, 3) := by decide +kernel
theorem dX5_plays_127 : decode cX5_plays 127 = .ok (.iload_n 1, 1) := by decide +kernel
theorem dX5_plays_128 : decode cX5_plays 128 = .ok (.iadd, 1) := by decide +kernel
theorem dX5_plays_129 : decode cX5_plays 129 = .ok (.putfield 175, 3) := by decide +kernel
theorem dX5_plays_132 : decode cX5_plays 132 = .ok (.iload_n 1, 1) := by decide +kernel
theorem dX5_plays_133 : decode cX5_plays 133 = .ok (.ireturn, 1) := by decide +kernel
theorem dX5_ahead_0 : decode cX5_ahead 0 = .ok (.iload_n 1, 1) := by decide +kernel
theorem dX5_ahead_1 : decode cX5_ahead 1 = .ok (.ifCond .lt 9, 3) := by decide +kernel
theorem dX5_ahead_4 : decode cX5_ahead 4 = .ok (.iload_n 1, 1) := by decide +kernel
theorem dX5_ahead_5 : decode cX5_ahead 5 = .ok (.bipush 20, 2) := by decide +kernel
theorem dX5_ahead_7 : decode cX5_ahead 7 = .ok (.if_icmp .le 10, 3) := by decide +kernel
theorem dX5_ahead_10 : decode cX5_ahead 10 = .ok (.aload_n 0, 1) := by decide +kernel
theorem dX5_ahead_11 : decode cX5_ahead 11 = .ok (.ldc 57, 2) := by decide +kernel
theorem dX5_ahead_13 : decode cX5_ahead 13 = .ok (.invokevirtual 58, 3) := by decide +kernel
theorem dX5_ahead_16 : decode cX5_ahead 16 = .ok (.ireturn, 1) := by decide +kernel
theorem dX5_ahead_17 : decode cX5_ahead 17 = .ok (.aload_n 0, 1) := by decide +kernel
theorem dX5_ahead_18 : decode cX5_ahead 18 = .ok (.getfield 10, 3) := by decide +kernel
theorem dX5_ahead_21 : decode cX5_ahead 21 = .ok (.getfield 113, 3) := by decide +kernel
theorem dX5_ahead_24 : decode cX5_ahead 24 = .ok (.ifCond .eq 13, 3) := by decide +kernel
theorem dX5_ahead_27 : decode cX5_ahead 27 = .ok (.aload_n 0, 1) := by decide +kernel
theorem dX5_ahead_28 : decode cX5_ahead 28 = .ok (.getfield 10, 3) := by decide +kernel
theorem dX5_ahead_31 : decode cX5_ahead 31 = .ok (.invokevirtual 181, 3) := by decide +kernel
theorem dX5_ahead_34 : decode cX5_ahead 34 = .ok (.ifCond .ne 10, 3) := by decide +kernel
theorem dX5_ahead_37 : decode cX5_ahead 37 = .ok (.aload_n 0, 1) := by decide +kernel
theorem dX5_ahead_38 : decode cX5_ahead 38 = .ok (.ldc 152, 2) := by decide +kernel
theorem dX5_ahead_40 : decode cX5_ahead 40 = .ok (.invokevirtual 58, 3) := by decide +kernel
theorem dX5_ahead_43 : decode cX5_ahead 43 = .ok (.ireturn, 1) := by decide +kernel
theorem dX5_ahead_44 : decode cX5_ahead 44 = .ok (.aload_n 0, 1) := by decide +kernel
theorem dX5_ahead_45 : decode cX5_ahead 45 = .ok (.getfield 19, 3) := by decide +kernel
theorem dX5_ahead_48 : decode cX5_ahead 48 = .ok (.aload_n 0, 1) := by decide +kernel
theorem dX5_ahead_49 : decode cX5_ahead 49 = .ok (.getfield 10, 3) := by decide +kernel
theorem dX5_ahead_52 : decode cX5_ahead 52 = .ok (.invokevirtual 199, 3) := by decide +kernel
theorem dX5_ahead_55 : decode cX5_ahead 55 = .ok (.iconst 0, 1) := by decide +kernel
theorem dX5_ahead_56 : decode cX5_ahead 56 = .ok (.istore_n 2, 1) := by decide +kernel
theorem dX5_ahead_57 : decode cX5_ahead 57 = .ok (.iconst 0, 1) := by decide +kernel
theorem dX5_ahead_58 : decode cX5_ahead 58 = .ok (.istore_n 3, 1) := by decide +kernel
theorem dX5_ahead_59 : decode cX5_ahead 59 = .ok (.iload_n 3, 1) := by decide +kernel
theorem dX5_ahead_60 : decode cX5_ahead 60 = .ok (.iload_n 1, 1) := by decide +kernel
theorem dX5_ahead_61 : decode cX5_ahead 61 = .ok (.if_icmp .ge 19, 3) := by decide +kernel
theorem dX5_ahead_64 : decode cX5_ahead 64 = .ok (.iload_n 2, 1) := by decide +kernel
theorem dX5_ahead_65 : decode cX5_ahead 65 = .ok (.aload_n 0, 1) := by decide +kernel
theorem dX5_ahead_66 : decode cX5_ahead 66 = .ok (.getfield 19, 3) := by decide +kernel
theorem dX5_ahead_69 : decode cX5_ahead 69 = .ok (.invokevirtual 254, 3) := by decide +kernel
theorem dX5_ahead_72 : decode cX5_ahead 72 = .ok (.iadd, 1) := by decide +kernel
theorem dX5_ahead_73 : decode cX5_ahead 73 = .ok (.istore_n 2, 1) := by decide +kernel
theorem dX5_ahead_74 : decode cX5_ahead 74 = .ok (.iinc 3 1, 3) := by decide +kernel
theorem dX5_ahead_77 : decode cX5_ahead 77 = .ok (.goto (-18), 3) := by decide +kernel
theorem dX5_ahead_80 : decode cX5_ahead 80 = .ok (.iload_n 2, 1) := by decide +kernel
theorem dX5_ahead_81 : decode cX5_ahead 81 = .ok (.ireturn, 1) := by decide +kernel
theorem dX5_seed_0 : decode cX5_seed 0 = .ok (.aload_n 0, 1) := by decide +kernel
theorem dX5_seed_1 : decode cX5_seed 1 = .ok (.getfield 10, 3) := by decide +kernel
theorem dX5_seed_4 : decode cX5_seed 4 = .ok (.getfield 257, 3) := by decide +kernel
theorem dX5_seed_7 : decode cX5_seed 7 = .ok (.istore_n 2, 1) := by decide +kernel
theorem dX5_seed_8 : decode cX5_seed 8 = .ok (.aload_n 0, 1) := by decide +kernel
theorem dX5_seed_9 : decode cX5_seed 9 = .ok (.getfield 10, 3) := by decide +kernel
theorem dX5_seed_12 : decode cX5_seed 12 = .ok (.iload_n 1, 1) := by decide +kernel
theorem dX5_seed_13 : decode cX5_seed 13 = .ok (.putfield 257, 3) := by decide +kernel
theorem dX5_seed_16 : decode cX5_seed 16 = .ok (.iload_n 2, 1) := by decide +kernel
theorem dX5_seed_17 : decode cX5_seed 17 = .ok (.ireturn, 1) := by decide +kernel
theorem dX5_feed_0 : decode cX5_feed 0 = .ok (.iload_n 2, 1) := by decide +kernel
theorem dX5_feed_1 : decode cX5_feed 1 = .ok (.iconst 1, 1) := by decide +kernel
theorem dX5_feed_2 : decode cX5_feed 2 = .ok (.if_icmp .lt 8, 3) := by decide +kernel
theorem dX5_feed_5 : decode cX5_feed 5 = .ok (.iload_n 2, 1) := by decide +kernel
theorem dX5_feed_6 : decode cX5_feed 6 = .ok (.iconst 4, 1) := by decide +kernel
theorem dX5_feed_7 : decode cX5_feed 7 = .ok (.if_icmp .le 10, 3) := by decide +kernel
theorem dX5_feed_10 : decode cX5_feed 10 = .ok (.aload_n 0, 1) := by decide +kernel
theorem dX5_feed_11 : decode cX5_feed 11 = .ok (.ldc 57, 2) := by decide +kernel
theorem dX5_feed_13 : decode cX5_feed 13 = .ok (.invokevirtual 58, 3) := by decide +kernel
theorem dX5_feed_16 : decode cX5_feed 16 = .ok (.ireturn, 1) := by decide +kernel
theorem dX5_feed_17 : decode cX5_feed 17 = .ok (.aload_n 0, 1) := by decide +kernel
theorem dX5_feed_18 : decode cX5_feed 18 = .ok (.getfield 32, 3) := by decide +kernel
theorem dX5_feed_21 : decode cX5_feed 21 = .ok (.getfield 260, 3) := by decide +kernel
theorem dX5_feed_24 : decode cX5_feed 24 = .ok (.iload_n 2, 1) := by decide +kernel
theorem dX5_feed_25 : decode cX5_feed 25 = .ok (.iadd, 1) := by decide +kernel
theorem dX5_feed_26 : decode cX5_feed 26 = .ok (.bipush 120, 2) := by decide +kernel
theorem dX5_feed_28 : decode cX5_feed 28 = .ok (.if_icmp .le 10, 3) := by decide +kernel
theorem dX5_feed_31 : decode cX5_feed 31 = .ok (.aload_n 0, 1) := by decide +kernel
theorem dX5_feed_32 : decode cX5_feed 32 = .ok (.ldc 66, 2) := by decide +kernel
theorem dX5_feed_34 : decode cX5_feed 34 = .ok (.invokevirtual 58, 3) := by decide +kernel
theorem dX5_feed_37 : decode cX5_feed 37 = .ok (.ireturn, 1) := by decide +kernel
theorem dX5_feed_38 : decode cX5_feed 38 = .ok (.iload_n 2, 1) := by decide +kernel
theorem dX5_feed_39 : decode cX5_feed 39 = .ok (.iconst 1, 1) := by decide +kernel
theorem dX5_feed_40 : decode cX5_feed 40 = .ok (.isub, 1) := by decide +kernel
theorem dX5_feed_41 : decode cX5_feed 41 = .ok (.istore_n 3, 1) := by decide +kernel
theorem dX5_feed_42 : decode cX5_feed 42 = .ok (.iload_n 3, 1) := by decide +kernel
theorem dX5_feed_43 : decode cX5_feed 43 = .ok (.ifCond .lt 26, 3) := by decide +kernel
theorem dX5_feed_46 : decode cX5_feed 46 = .ok (.aload_n 0, 1) := by decide +kernel
theorem dX5_feed_47 : decode cX5_feed 47 = .ok (.getfield 32, 3) := by decide +kernel
theorem dX5_feed_50 : decode cX5_feed 50 = .ok (.iload_n 1, 1) := by decide +kernel
theorem dX5_feed_51 : decode cX5_feed 51 = .ok (.bipush 8, 2) := by decide +kernel
theorem dX5_feed_53 : decode cX5_feed 53 = .ok (.iload_n 3, 1) := by decide +kernel
theorem dX5_feed_54 : decode cX5_feed 54 = .ok (.imul, 1) := by decide +kernel
theorem dX5_feed_55 : decode cX5_feed 55 = .ok (.iushr, 1) := by decide +kernel
theorem dX5_feed_56 : decode cX5_feed 56 = .ok (.sipush 255, 3) := by decide +kernel
theorem dX5_feed_59 : decode cX5_feed 59 = .ok (.iand, 1) := by decide +kernel
theorem dX5_feed_60 : decode cX5_feed 60 = .ok (.invokevirtual 263, 3) := by decide +kernel
theorem dX5_feed_63 : decode cX5_feed 63 = .ok (.iinc 3 (-1), 3) := by decide +kernel
theorem dX5_feed_66 : decode cX5_feed 66 = .ok (.goto (-24), 3) := by decide +kernel
theorem dX5_feed_69 : decode cX5_feed 69 = .ok (.aload_n 0, 1) := by decide +kernel
theorem dX5_feed_70 : decode cX5_feed 70 = .ok (.getfield 32, 3) := by decide +kernel
theorem dX5_feed_73 : decode cX5_feed 73 = .ok (.getfield 260, 3) := by decide +kernel
theorem dX5_feed_76 : decode cX5_feed 76 = .ok (.ireturn, 1) := by decide +kernel
theorem dX5_wipe_0 : decode cX5_wipe 0 = .ok (.aload_n 0, 1) := by decide +kernel
theorem dX5_wipe_1 : decode cX5_wipe 1 = .ok (.getfield 32, 3) := by decide +kernel
theorem dX5_wipe_4 : decode cX5_wipe 4 = .ok (.getfield 260, 3) := by decide +kernel
theorem dX5_wipe_7 : decode cX5_wipe 7 = .ok (.istore_n 1, 1) := by decide +kernel
theorem dX5_wipe_8 : decode cX5_wipe 8 = .ok (.aload_n 0, 1) := by decide +kernel
theorem dX5_wipe_9 : decode cX5_wipe 9 = .ok (.getfield 32, 3) := by decide +kernel
theorem dX5_wipe_12 : decode cX5_wipe 12 = .ok (.iconst 0, 1) := by decide +kernel
theorem dX5_wipe_13 : decode cX5_wipe 13 = .ok (.putfield 260, 3) := by decide +kernel
theorem dX5_wipe_16 : decode cX5_wipe 16 = .ok (.iload_n 1, 1) := by decide +kernel
theorem dX5_wipe_17 : decode cX5_wipe 17 = .ok (.ireturn, 1) := by decide +kernel
theorem dX5_text_0 : decode cX5_text 0 = .ok (.aload_n 0, 1) := by decide +kernel
theorem dX5_text_1 : decode cX5_text 1 = .ok (.getfield 19, 3) := by decide +kernel
theorem dX5_text_4 : decode cX5_text 4 = .ok (.aload_n 0, 1) := by decide +kernel
theorem dX5_text_5 : decode cX5_text 5 = .ok (.getfield 10, 3) := by decide +kernel
theorem dX5_text_8 : decode cX5_text 8 = .ok (.invokevirtual 199, 3) := by decide +kernel
theorem dX5_text_11 : decode cX5_text 11 = .ok (.aload_n 0, 1) := by decide +kernel
theorem dX5_text_12 : decode cX5_text 12 = .ok (.getfield 32, 3) := by decide +kernel
theorem dX5_text_15 : decode cX5_text 15 = .ok (.aload_n 0, 1) := by decide +kernel
theorem dX5_text_16 : decode cX5_text 16 = .ok (.getfield 19, 3) := by decide +kernel
theorem dX5_text_19 : decode cX5_text 19 = .ok (.invokevirtual 266, 3) := by decide +kernel
theorem dX5_text_22 : decode cX5_text 22 = .ok (.istore_n 1, 1) := by decide +kernel
theorem dX5_text_23 : decode cX5_text 23 = .ok (.aload_n 0, 1) := by decide +kernel
theorem dX5_text_24 : decode cX5_text 24 = .ok (.getfield 32, 3) := by decide +kernel
theorem dX5_text_27 : decode cX5_text 27 = .ok (.iconst 0, 1) := by decide +kernel
theorem dX5_text_28 : decode cX5_text 28 = .ok (.putfield 260, 3) := by decide +kernel
theorem dX5_text_31 : decode cX5_text 31 = .ok (.iload_n 1, 1) := by decide +kernel
theorem dX5_text_32 : decode cX5_text 32 = .ok (.iconst (-1), 1) := by decide +kernel
theorem dX5_text_33 : decode cX5_text 33 = .ok (.if_icmp .eq 7, 3) := by decide +kernel
theorem dX5_text_36 : decode cX5_text 36 = .ok (.iconst (-1), 1) := by decide +kernel
theorem dX5_text_37 : decode cX5_text 37 = .ok (.iload_n 1, 1) := by decide +kernel
theorem dX5_text_38 : decode cX5_text 38 = .ok (.isub, 1) := by decide +kernel
theorem dX5_text_39 : decode cX5_text 39 = .ok (.ireturn, 1) := by decide +kernel
theorem dX5_text_40 : decode cX5_text 40 = .ok (.aload_n 0, 1) := by decide +kernel
theorem dX5_text_41 : decode cX5_text 41 = .ok (.getfield 10, 3) := by decide +kernel
theorem dX5_text_44 : decode cX5_text 44 = .ok (.aload_n 0, 1) := by decide +kernel
theorem dX5_text_45 : decode cX5_text 45 = .ok (.getfield 19, 3) := by decide +kernel
theorem dX5_text_48 : decode cX5_text 48 = .ok (.invokevirtual 199, 3) := by decide +kernel
theorem dX5_text_51 : decode cX5_text 51 = .ok (.aload_n 0, 1) := by decide +kernel
theorem dX5_text_52 : decode cX5_text 52 = .ok (.getfield 32, 3) := by decide +kernel
theorem dX5_text_55 : decode cX5_text 55 = .ok (.getfield 270, 3) := by decide +kernel
theorem dX5_text_58 : decode cX5_text 58 = .ok (.ireturn, 1) := by decide +kernel
theorem dX5_hold_0 : decode cX5_hold 0 = .ok (.aload_n 0, 1) := by decide +kernel
theorem dX5_hold_1 : decode cX5_hold 1 = .ok (.getfield 10, 3) := by decide +kernel
theorem dX5_hold_4 : decode cX5_hold 4 = .ok (.iload_n 1, 1) := by decide +kernel
theorem dX5_hold_5 : decode cX5_hold 5 = .ok (.invokevirtual 273, 3) := by decide +kernel
theorem dX5_hold_8 : decode cX5_hold 8 = .ok (.ifCond .eq 14, 3) := by decide +kernel
theorem dX5_hold_11 : decode cX5_hold 11 = .ok (.aload_n 0, 1) := by decide +kernel
theorem dX5_hold_12 : decode cX5_hold 12 = .ok (.getfield 10, 3) := by decide +kernel
theorem dX5_hold_15 : decode cX5_hold 15 = .ok (.iload_n 2, 1) := by decide +kernel
theorem dX5_hold_16 : decode cX5_hold 16 = .ok (.invokevirtual 110, 3) := by decide +kernel
theorem dX5_hold_19 : decode cX5_hold 19 = .ok (.ifCond .ne 10, 3) := by decide +kernel
theorem dX5_hold_22 : decode cX5_hold 22 = .ok (.aload_n 0, 1) := by decide +kernel
theorem dX5_hold_23 : decode cX5_hold 23 = .ok (.ldc 57, 2) := by decide +kernel
theorem dX5_hold_25 : decode cX5_hold 25 = .ok (.invokevirtual 58, 3) := by decide +kernel
theorem dX5_hold_28 : decode cX5_hold 28 = .ok (.ireturn, 1) := by decide +kernel
theorem dX5_hold_29 : decode cX5_hold 29 = .ok (.aload_n 0, 1) := by decide +kernel
theorem dX5_hold_30 : decode cX5_hold 30 = .ok (.getfield 10, 3) := by decide +kernel
theorem dX5_hold_33 : decode cX5_hold 33 = .ok (.iload_n 1, 1) := by decide +kernel
theorem dX5_hold_34 : decode cX5_hold 34 = .ok (.iload_n 2, 1) := by decide +kernel
theorem dX5_hold_35 : decode cX5_hold 35 = .ok (.invokevirtual 276, 3) := by decide +kernel
theorem dX5_hold_38 : decode cX5_hold 38 = .ok (.iconst 1, 1) := by decide +kernel
theorem dX5_hold_39 : decode cX5_hold 39 = .ok (.ireturn, 1) := by decide +kernel
theorem dX5_as_0 : decode cX5_as 0 = .ok (.aload_n 0, 1) := by decide +kernel
theorem dX5_as_1 : decode cX5_as 1 = .ok (.getfield 10, 3) := by decide +kernel
theorem dX5_as_4 : decode cX5_as 4 = .ok (.iload_n 1, 1) := by decide +kernel
theorem dX5_as_5 : decode cX5_as 5 = .ok (.invokevirtual 273, 3) := by decide +kernel
theorem dX5_as_8 : decode cX5_as 8 = .ok (.ifCond .eq 10, 3) := by decide +kernel
theorem dX5_as_11 : decode cX5_as 11 = .ok (.iload_n 2, 1) := by decide +kernel
theorem dX5_as_12 : decode cX5_as 12 = .ok (.invokestatic 51, 3) := by decide +kernel
theorem dX5_as_15 : decode cX5_as 15 = .ok (.ifCond .ne 10, 3) := by decide +kernel
theorem dX5_as_18 : decode cX5_as 18 = .ok (.aload_n 0, 1) := by decide +kernel
theorem dX5_as_19 : decode cX5_as 19 = .ok (.ldc 57, 2) := by decide +kernel
theorem dX5_as_21 : decode cX5_as 21 = .ok (.invokevirtual 58, 3) := by decide +kernel
theorem dX5_as_24 : decode cX5_as 24 = .ok (.ireturn, 1) := by decide +kernel
theorem dX5_as_25 : decode cX5_as 25 = .ok (.aload_n 0, 1) := by decide +kernel
theorem dX5_as_26 : decode cX5_as 26 = .ok (.getfield 10, 3) := by decide +kernel
theorem dX5_as_29 : decode cX5_as 29 = .ok (.iload_n 1, 1) := by decide +kernel
theorem dX5_as_30 : decode cX5_as 30 = .ok (.invokevirtual 279, 3) := by decide +kernel
theorem dX5_as_33 : decode cX5_as 33 = .ok (.istore_n 3, 1) := by decide +kernel
theorem dX5_as_34 : decode cX5_as 34 = .ok (.iload_n 3, 1) := by decide +kernel
theorem dX5_as_35 : decode cX5_as 35 = .ok (.iconst (-1), 1) := by decide +kernel
theorem dX5_as_36 : decode cX5_as 36 = .ok (.if_icmp .ne 10, 3) := by decide +kernel
theorem dX5_as_39 : decode cX5_as 39 = .ok (.aload_n 0, 1) := by decide +kernel
theorem dX5_as_40 : decode cX5_as 40 = .ok (.ldc 234, 2) := by decide +kernel
theorem dX5_as_42 : decode cX5_as 42 = .ok (.invokevirtual 58, 3) := by decide +kernel
theorem dX5_as_45 : decode cX5_as 45 = .ok (.ireturn, 1) := by decide +kernel
theorem dX5_as_46 : decode cX5_as 46 = .ok (.aload_n 0, 1) := by decide +kernel
theorem dX5_as_47 : decode cX5_as 47 = .ok (.getfield 10, 3) := by decide +kernel
theorem dX5_as_50 : decode cX5_as 50 = .ok (.iload_n 3, 1) := by decide +kernel
theorem dX5_as_51 : decode cX5_as 51 = .ok (.invokevirtual 73, 3) := by decide +kernel
theorem dX5_as_54 : decode cX5_as 54 = .ok (.iload_n 2, 1) := by decide +kernel
theorem dX5_as_55 : decode cX5_as 55 = .ok (.invokestatic 282, 3) := by decide +kernel
theorem dX5_as_58 : decode cX5_as 58 = .ok (.ifCond .eq 7, 3) := by decide +kernel
theorem dX5_as_61 : decode cX5_as 61 = .ok (.iload_n 3, 1) := by decide +kernel
theorem dX5_as_62 : decode cX5_as 62 = .ok (.goto 10, 3) := by decide +kernel
theorem dX5_as_65 : decode cX5_as 65 = .ok (.aload_n 0, 1) := by decide +kernel
theorem dX5_as_66 : decode cX5_as 66 = .ok (.ldc_w 285, 3) := by decide +kernel
theorem dX5_as_69 : decode cX5_as 69 = .ok (.invokevirtual 58, 3) := by decide +kernel
theorem dX5_as_72 : decode cX5_as 72 = .ok (.ireturn, 1) := by decide +kernel
theorem dX5_sheet_0 : decode cX5_sheet 0 = .ok (.aload_n 0, 1) := by decide +kernel
theorem dX5_sheet_1 : decode cX5_sheet 1 = .ok (.iload_n 1, 1) := by decide +kernel
theorem dX5_sheet_2 : decode cX5_sheet 2 = .ok (.invokevirtual 227, 3) := by decide +kernel
theorem dX5_sheet_5 : decode cX5_sheet 5 = .ok (.astore 4, 2) := by decide +kernel
theorem dX5_sheet_7 : decode cX5_sheet 7 = .ok (.aload 4, 2) := by decide +kernel
theorem dX5_sheet_9 : decode cX5_sheet 9 = .ok (.ifnull 10, 3) := by decide +kernel
theorem dX5_sheet_12 : decode cX5_sheet 12 = .ok (.iload_n 2, 1) := by decide +kernel
theorem dX5_sheet_13 : decode cX5_sheet 13 = .ok (.invokestatic 286, 3) := by decide +kernel
theorem dX5_sheet_16 : decode cX5_sheet 16 = .ok (.ifCond .ne 10, 3) := by decide +kernel
theorem dX5_sheet_19 : decode cX5_sheet 19 = .ok (.aload_n 0, 1) := by decide +kernel
theorem dX5_sheet_20 : decode cX5_sheet 20 = .ok (.ldc 57, 2) := by decide +kernel
theorem dX5_sheet_22 : decode cX5_sheet 22 = .ok (.invokevirtual 58, 3) := by decide +kernel
theorem dX5_sheet_25 : decode cX5_sheet 25 = .ok (.ireturn, 1) := by decide +kernel
theorem dX5_sheet_26 : decode cX5_sheet 26 = .ok (.iload_n 3, 1) := by decide +kernel
theorem dX5_sheet_27 : decode cX5_sheet 27 = .ok (.ifCond .ge 10, 3) := by decide +kernel
theorem dX5_sheet_30 : decode cX5_sheet 30 = .ok (.aload_n 0, 1) := by decide +kernel
theorem dX5_sheet_31 : decode cX5_sheet 31 = .ok (.ldc 241, 2) := by decide +kernel
theorem dX5_sheet_33 : decode cX5_sheet 33 = .ok (.invokevirtual 58, 3) := by decide +kernel
theorem dX5_sheet_36 : decode cX5_sheet 36 = .ok (.ireturn, 1) := by decide +kernel
theorem dX5_sheet_37 : decode cX5_sheet 37 = .ok (.iload_n 3, 1) := by decide +kernel
theorem dX5_sheet_38 : decode cX5_sheet 38 = .ok (.bipush 40, 2) := by decide +kernel
theorem dX5_sheet_40 : decode cX5_sheet 40 = .ok (.if_icmp .le 10, 3) := by decide +kernel
theorem dX5_sheet_43 : decode cX5_sheet 43 = .ok (.aload_n 0, 1) := by decide +kernel
theorem dX5_sheet_44 : decode cX5_sheet 44 = .ok (.ldc 57, 2) := by decide +kernel
theorem dX5_sheet_46 : decode cX5_sheet 46 = .ok (.invokevirtual 58, 3) := by decide +kernel
theorem dX5_sheet_49 : decode cX5_sheet 49 = .ok (.ireturn, 1) := by decide +kernel
theorem dX5_sheet_50 : decode cX5_sheet 50 = .ok (.aload 4, 2) := by decide +kernel
theorem dX5_sheet_52 : decode cX5_sheet 52 = .ok (.iload_n 2, 1) := by decide +kernel
theorem dX5_sheet_53 : decode cX5_sheet 53 = .ok (.iload_n 3, 1) := by decide +kernel
theorem dX5_sheet_54 : decode cX5_sheet 54 = .ok (.invokevirtual 289, 3) := by decide +kernel
theorem dX5_sheet_57 : decode cX5_sheet 57 = .ok (.aload 4, 2) := by decide +kernel
theorem dX5_sheet_59 : decode cX5_sheet 59 = .ok (.getfield 292, 3) := by decide +kernel
theorem dX5_sheet_62 : decode cX5_sheet 62 = .ok (.ireturn, 1) := by decide +kernel
theorem dX5_write_0 : decode cX5_write 0 = .ok (.aload_n 0, 1) := by decide +kernel
theorem dX5_write_1 : decode cX5_write 1 = .ok (.iload_n 1, 1) := by decide +kernel
theorem dX5_write_2 : decode cX5_write 2 = .ok (.invokevirtual 227, 3) := by decide +kernel
theorem dX5_write_5 : decode cX5_write 5 = .ok (.astore 4, 2) := by decide +kernel
theorem dX5_write_7 : decode cX5_write 7 = .ok (.aload 4, 2) := by decide +kernel
theorem dX5_write_9 : decode cX5_write 9 = .ok (.ifnonnull 10, 3) := by decide +kernel
theorem dX5_write_12 : decode cX5_write 12 = .ok (.aload_n 0, 1) := by decide +kernel
theorem dX5_write_13 : decode cX5_write 13 = .ok (.ldc 57, 2) := by decide +kernel
theorem dX5_write_15 : decode cX5_write 15 = .ok (.invokevirtual 58, 3) := by decide +kernel
theorem dX5_write_18 : decode cX5_write 18 = .ok (.ireturn, 1) := by decide +kernel
theorem dX5_write_19 : decode cX5_write 19 = .ok (.aload 4, 2) := by decide +kernel
theorem dX5_write_21 : decode cX5_write 21 = .ok (.invokevirtual 231, 3) := by decide +kernel
theorem dX5_write_24 : decode cX5_write 24 = .ok (.ifCond .eq 10, 3) := by decide +kernel
theorem dX5_write_27 : decode cX5_write 27 = .ok (.aload_n 0, 1) := by decide +kernel
theorem dX5_write_28 : decode cX5_write 28 = .ok (.ldc 234, 2) := by decide +kernel
theorem dX5_write_30 : decode cX5_write 30 = .ok (.invokevirtual 58, 3) := by decide +kernel
theorem dX5_write_33 : decode cX5_write 33 = .ok (.ireturn, 1) := by decide +kernel
theorem dX5_write_34 : decode cX5_write 34 = .ok (.aload 4, 2) := by decide +kernel
theorem dX5_write_36 : decode cX5_write 36 = .ok (.iload_n 2, 1) := by decide +kernel
theorem dX5_write_37 : decode cX5_write 37 = .ok (.invokevirtual 293, 3) := by decide +kernel
theorem dX5_write_40 : decode cX5_write 40 = .ok (.ifCond .ne 10, 3) := by decide +kernel
theorem dX5_write_43 : decode cX5_write 43 = .ok (.aload_n 0, 1) := by decide +kernel
theorem dX5_write_44 : decode cX5_write 44 = .ok (.ldc 57, 2) := by decide +kernel
theorem dX5_write_46 : decode cX5_write 46 = .ok (.invokevirtual 58, 3) := by decide +kernel
theorem dX5_write_49 : decode cX5_write 49 = .ok (.ireturn, 1) := by decide +kernel
theorem dX5_write_50 : decode cX5_write 50 = .ok (.aload 4, 2) := by decide +kernel
theorem dX5_write_52 : decode cX5_write 52 = .ok (.iload_n 2, 1) := by decide +kernel
theorem dX5_write_53 : decode cX5_write 53 = .ok (.iload_n 3, 1) := by decide +kernel
theorem dX5_write_54 : decode cX5_write 54 = .ok (.invokevirtual 296, 3) := by decide +kernel
theorem dX5_write_57 : decode cX5_write 57 = .ok (.iconst 1, 1) := by decide +kernel
theorem dX5_write_58 : decode cX5_write 58 = .ok (.ireturn, 1) := by decide +kernel
theorem dX5_copy_0 : decode cX5_copy 0 = .ok (.aload_n 0, 1) := by decide +kernel
theorem dX5_copy_1 : decode cX5_copy 1 = .ok (.iload_n 1, 1) := by decide +kernel
theorem dX5_copy_2 : decode cX5_copy 2 = .ok (.invokevirtual 227, 3) := by decide +kernel
theorem dX5_copy_5 : decode cX5_copy 5 = .ok (.astore 6, 2) := by decide +kernel
theorem dX5_copy_7 : decode cX5_copy 7 = .ok (.aload_n 0, 1) := by decide +kernel
theorem dX5_copy_8 : decode cX5_copy 8 = .ok (.iload_n 3, 1) := by decide +kernel
theorem dX5_copy_9 : decode cX5_copy 9 = .ok (.invokevirtual 227, 3) := by decide +kernel
theorem dX5_copy_12 : decode cX5_copy 12 = .ok (.astore 7, 2) := by decide +kernel
theorem dX5_copy_14 : decode cX5_copy 14 = .ok (.aload 6, 2) := by decide +kernel
theorem dX5_copy_16 : decode cX5_copy 16 = .ok (.ifnull 8, 3) := by decide +kernel
theorem dX5_copy_19 : decode cX5_copy 19 = .ok (.aload 7, 2) := by decide +kernel
theorem dX5_copy_21 : decode cX5_copy 21 = .ok (.ifnonnull 10, 3) := by decide +kernel
theorem dX5_copy_24 : decode cX5_copy 24 = .ok (.aload_n 0, 1) := by decide +kernel
theorem dX5_copy_25 : decode cX5_copy 25 = .ok (.ldc 57, 2) := by decide +kernel
theorem dX5_copy_27 : decode cX5_copy 27 = .ok (.invokevirtual 58, 3) := by decide +kernel
theorem dX5_copy_30 : decode cX5_copy 30 = .ok (.ireturn, 1) := by decide +kernel
theorem dX5_copy_31 : decode cX5_copy 31 = .ok (.aload 6, 2) := by decide +kernel
theorem dX5_copy_33 : decode cX5_copy 33 = .ok (.invokevirtual 231, 3) := by decide +kernel
theorem dX5_copy_36 : decode cX5_copy 36 = .ok (.ifCond .ne 11, 3) := by decide +kernel
theorem dX5_copy_39 : decode cX5_copy 39 = .ok (.aload 7, 2) := by decide +kernel
theorem dX5_copy_41 : decode cX5_copy 41 = .ok (.invokevirtual 231, 3) := by decide +kernel
theorem dX5_copy_44 : decode cX5_copy 44 = .ok (.ifCond .eq 10, 3) := by decide +kernel
theorem dX5_copy_47 : decode cX5_copy 47 = .ok (.aload_n 0, 1) := by decide +kernel
theorem dX5_copy_48 : decode cX5_copy 48 = .ok (.ldc 234, 2) := by decide +kernel
theorem dX5_copy_50 : decode cX5_copy 50 = .ok (.invokevirtual 58, 3) := by decide +kernel
theorem dX5_copy_53 : decode cX5_copy 53 = .ok (.ireturn, 1) := by decide +kernel
theorem dX5_copy_54 : decode cX5_copy 54 = .ok (.aload 6, 2) := by decide +kernel
theorem dX5_copy_56 : decode cX5_copy 56 = .ok (.getfield 299, 3) := by decide +kernel
theorem dX5_copy_59 : decode cX5_copy 59 = .ok (.aload 7, 2) := by decide +kernel
theorem dX5_copy_61 : decode cX5_copy 61 = .ok (.getfield 299, 3) := by decide +kernel
theorem dX5_copy_64 : decode cX5_copy 64 = .ok (.if_icmp .eq 11, 3) := by decide +kernel
theorem dX5_copy_67 : decode cX5_copy 67 = .ok (.aload_n 0, 1) := by decide +kernel
theorem dX5_copy_68 : decode cX5_copy 68 = .ok (.ldc_w 285, 3) := by decide +kernel
theorem dX5_copy_71 : decode cX5_copy 71 = .ok (.invokevirtual 58, 3) := by decide +kernel
theorem dX5_copy_74 : decode cX5_copy 74 = .ok (.ireturn, 1) := by decide +kernel
theorem dX5_copy_75 : decode cX5_copy 75 = .ok (.aload 6, 2) := by decide +kernel
theorem dX5_copy_77 : decode cX5_copy 77 = .ok (.iload_n 2, 1) := by decide +kernel
theorem dX5_copy_78 : decode cX5_copy 78 = .ok (.iload 5, 2) := by decide +kernel
theorem dX5_copy_80 : decode cX5_copy 80 = .ok (.invokevirtual 302, 3) := by decide +kernel
theorem dX5_copy_83 : decode cX5_copy 83 = .ok (.ifCond .eq 15, 3) := by decide +kernel
theorem dX5_copy_86 : decode cX5_copy 86 = .ok (.aload 7, 2) := by decide +kernel
theorem dX5_copy_88 : decode cX5_copy 88 = .ok (.iload 4, 2) := by decide +kernel
theorem dX5_copy_90 : decode cX5_copy 90 = .ok (.iload 5, 2) := by decide +kernel
theorem dX5_copy_92 : decode cX5_copy 92 = .ok (.invokevirtual 302, 3) := by decide +kernel
theorem dX5_copy_95 : decode cX5_copy 95 = .ok (.ifCond .ne 10, 3) := by decide +kernel
theorem dX5_copy_98 : decode cX5_copy 98 = .ok (.aload_n 0, 1) := by decide +kernel
theorem dX5_copy_99 : decode cX5_copy 99 = .ok (.ldc 57, 2) := by decide +kernel
theorem dX5_copy_101 : decode cX5_copy 101 = .ok (.invokevirtual 58, 3) := by decide +kernel
theorem dX5_copy_104 : decode cX5_copy 104 = .ok (.ireturn, 1) := by decide +kernel
theorem dX5_copy_105 : decode cX5_copy 105 = .ok (.aload 6, 2) := by decide +kernel
theorem dX5_copy_107 : decode cX5_copy 107 = .ok (.getfield 305, 3) := by decide +kernel
theorem dX5_copy_110 : decode cX5_copy 110 = .ok (.iload_n 2, 1) := by decide +kernel
theorem dX5_copy_111 : decode cX5_copy 111 = .ok (.aload 7, 2) := by decide +kernel
theorem dX5_copy_113 : decode cX5_copy 113 = .ok (.getfield 305, 3) := by decide +kernel
theorem dX5_copy_116 : decode cX5_copy 116 = .ok (.iload 4, 2) := by decide +kernel
theorem dX5_copy_118 : decode cX5_copy 118 = .ok (.iload 5, 2) := by decide +kernel
theorem dX5_copy_120 : decode cX5_copy 120 = .ok (.invokestatic 308, 3) := by decide +kernel
theorem dX5_copy_123 : decode cX5_copy 123 = .ok (.iload 5, 2) := by decide +kernel
theorem dX5_copy_125 : decode cX5_copy 125 = .ok (.ireturn, 1) := by decide +kernel
theorem dX5_load_0 : decode cX5_load 0 = .ok (.aload_n 0, 1) := by decide +kernel
theorem dX5_load_1 : decode cX5_load 1 = .ok (.iload_n 1, 1) := by decide +kernel
theorem dX5_load_2 : decode cX5_load 2 = .ok (.invokevirtual 227, 3) := by decide +kernel
theorem dX5_load_5 : decode cX5_load 5 = .ok (.astore_n 2, 1) := by decide +kernel
theorem dX5_load_6 : decode cX5_load 6 = .ok (.aload_n 2, 1) := by decide +kernel
theorem dX5_load_7 : decode cX5_load 7 = .ok (.ifnonnull 10, 3) := by decide +kernel
theorem dX5_load_10 : decode cX5_load 10 = .ok (.aload_n 0, 1) := by decide +kernel
theorem dX5_load_11 : decode cX5_load 11 = .ok (.ldc 57, 2) := by decide +kernel
theorem dX5_load_13 : decode cX5_load 13 = .ok (.invokevirtual 58, 3) := by decide +kernel
theorem dX5_load_16 : decode cX5_load 16 = .ok (.ireturn, 1) := by decide +kernel
theorem dX5_load_17 : decode cX5_load 17 = .ok (.aload_n 2, 1) := by decide +kernel
theorem dX5_load_18 : decode cX5_load 18 = .ok (.invokevirtual 231, 3) := by decide +kernel
theorem dX5_load_21 : decode cX5_load 21 = .ok (.ifCond .eq 10, 3) := by decide +kernel
theorem dX5_load_24 : decode cX5_load 24 = .ok (.aload_n 0, 1) := by decide +kernel
theorem dX5_load_25 : decode cX5_load 25 = .ok (.ldc 234, 2) := by decide +kernel
theorem dX5_load_27 : decode cX5_load 27 = .ok (.invokevirtual 58, 3) := by decide +kernel
theorem dX5_load_30 : decode cX5_load 30 = .ok (.ireturn, 1) := by decide +kernel
theorem dX5_load_31 : decode cX5_load 31 = .ok (.iconst 0, 1) := by decide +kernel
theorem dX5_load_32 : decode cX5_load 32 = .ok (.istore_n 3, 1) := by decide +kernel
theorem dX5_load_33 : decode cX5_load 33 = .ok (.iload_n 3, 1) := by decide +kernel
theorem dX5_load_34 : decode cX5_load 34 = .ok (.aload_n 2, 1) := by decide +kernel
theorem dX5_load_35 : decode cX5_load 35 = .ok (.getfield 292, 3) := by decide +kernel
theorem dX5_load_38 : decode cX5_load 38 = .ok (.if_icmp .ge 44, 3) := by decide +kernel
theorem dX5_load_41 : decode cX5_load 41 = .ok (.iload_n 3, 1) := by decide +kernel
theorem dX5_load_42 : decode cX5_load 42 = .ok (.aload_n 0, 1) := by decide +kernel
theorem dX5_load_43 : decode cX5_load 43 = .ok (.getfield 10, 3) := by decide +kernel
theorem dX5_load_46 : decode cX5_load 46 = .ok (.getfield 62, 3) := by decide +kernel
theorem dX5_load_49 : decode cX5_load 49 = .ok (.if_icmp .ge 33, 3) := by decide +kernel
theorem dX5_load_52 : decode cX5_load 52 = .ok (.aload_n 2, 1) := by decide +kernel
theorem dX5_load_53 : decode cX5_load 53 = .ok (.iload_n 3, 1) := by decide +kernel
theorem dX5_load_54 : decode cX5_load 54 = .ok (.invokevirtual 314, 3) := by decide +kernel
theorem dX5_load_57 : decode cX5_load 57 = .ok (.invokestatic 95, 3) := by decide +kernel
theorem dX5_load_60 : decode cX5_load 60 = .ok (.ifCond .eq 22, 3) := by decide +kernel
theorem dX5_load_63 : decode cX5_load 63 = .ok (.aload_n 0, 1) := by decide +kernel
theorem dX5_load_64 : decode cX5_load 64 = .ok (.getfield 10, 3) := by decide +kernel
theorem dX5_load_67 : decode cX5_load 67 = .ok (.iload_n 3, 1) := by decide +kernel
theorem dX5_load_68 : decode cX5_load 68 = .ok (.aload_n 2, 1) := by decide +kernel
theorem dX5_load_69 : decode cX5_load 69 = .ok (.iload_n 3, 1) := by decide +kernel
theorem dX5_load_70 : decode cX5_load 70 = .ok (.invokevirtual 314, 3) := by decide +kernel
theorem dX5_load_73 : decode cX5_load 73 = .ok (.invokevirtual 98, 3) := by decide +kernel
theorem dX5_load_76 : decode cX5_load 76 = .ok (.iinc 3 1, 3) := by decide +kernel
theorem dX5_load_79 : decode cX5_load 79 = .ok (.goto (-46), 3) := by decide +kernel
theorem dX5_load_82 : decode cX5_load 82 = .ok (.iload_n 3, 1) := by decide +kernel
theorem dX5_load_83 : decode cX5_load 83 = .ok (.ireturn, 1) := by decide +kernel
theorem dX5_judge_0 : decode cX5_judge 0 = .ok (.aload_n 0, 1) := by decide +kernel
theorem dX5_judge_1 : decode cX5_judge 1 = .ok (.iload_n 1, 1) := by decide +kernel
theorem dX5_judge_2 : decode cX5_judge 2 = .ok (.invokevirtual 227, 3) := by decide +kernel
theorem dX5_judge_5 : decode cX5_judge 5 = .ok (.astore_n 2, 1) := by decide +kernel
theorem dX5_judge_6 : decode cX5_judge 6 = .ok (.aload_n 2, 1) := by decide +kernel
theorem dX5_judge_7 : decode cX5_judge 7 = .ok (.ifnonnull 10, 3) := by decide +kernel
theorem dX5_judge_10 : decode cX5_judge 10 = .ok (.aload_n 0, 1) := by decide +kernel
theorem dX5_judge_11 : decode cX5_judge 11 = .ok (.ldc 57, 2) := by decide +kernel
theorem dX5_judge_13 : decode cX5_judge 13 = .ok (.invokevirtual 58, 3) := by decide +kernel
theorem dX5_judge_16 : decode cX5_judge 16 = .ok (.ireturn, 1) := by decide +kernel
theorem dX5_judge_17 : decode cX5_judge 17 = .ok (.aload_n 2, 1) := by decide +kernel
theorem dX5_judge_18 : decode cX5_judge 18 = .ok (.invokevirtual 231, 3) := by decide +kernel
theorem dX5_judge_21 : decode cX5_judge 21 = .ok (.ifCond .eq 10, 3) := by decide +kernel
theorem dX5_judge_24 : decode cX5_judge 24 = .ok (.aload_n 0, 1) := by decide +kernel
theorem dX5_judge_25 : decode cX5_judge 25 = .ok (.ldc 234, 2) := by decide +kernel
theorem dX5_judge_27 : decode cX5_judge 27 = .ok (.invokevirtual 58, 3) := by decide +kernel
theorem dX5_judge_30 : decode cX5_judge 30 = .ok (.ireturn, 1) := by decide +kernel
theorem dX5_judge_31 : decode cX5_judge 31 = .ok (.iconst 0, 1) := by decide +kernel
theorem dX5_judge_32 : decode cX5_judge 32 = .ok (.istore_n 3, 1) := by decide +kernel
theorem dX5_judge_33 : decode cX5_judge 33 = .ok (.iload_n 3, 1) := by decide +kernel
theorem dX5_judge_34 : decode cX5_judge 34 = .ok (.aload_n 2, 1) := by decide +kernel
theorem dX5_judge_35 : decode cX5_judge 35 = .ok (.getfield 292, 3) := by decide +kernel
theorem dX5_judge_38 : decode cX5_judge 38 = .ok (.if_icmp .ge 73, 3) := by decide +kernel
theorem dX5_judge_41 : decode cX5_judge 41 = .ok (.aload_n 2, 1) := by decide +kernel
theorem dX5_judge_42 : decode cX5_judge 42 = .ok (.iload_n 3, 1) := by decide +kernel
theorem dX5_judge_43 : decode cX5_judge 43 = .ok (.iconst 1, 1) := by decide +kernel
theorem dX5_judge_44 : decode cX5_judge 44 = .ok (.iadd, 1) := by decide +kernel
theorem dX5_judge_45 : decode cX5_judge 45 = .ok (.invokevirtual 293, 3) := by decide +kernel
theorem dX5_judge_48 : decode cX5_judge 48 = .ok (.ifCond .ne 7, 3) := by decide +kernel
theorem dX5_judge_51 : decode cX5_judge 51 = .ok (.iconst 1, 1) := by decide +kernel
theorem dX5_judge_52 : decode cX5_judge 52 = .ok (.goto 4, 3) := by decide +kernel
theorem dX5_judge_55 : decode cX5_judge 55 = .ok (.iconst 0, 1) := by decide +kernel
theorem dX5_judge_56 : decode cX5_judge 56 = .ok (.istore 4, 2) := by decide +kernel
theorem dX5_judge_58 : decode cX5_judge 58 = .ok (.iload 4, 2) := by decide +kernel
theorem dX5_judge_60 : decode cX5_judge 60 = .ok (.ifCond .ne 41, 3) := by decide +kernel
theorem dX5_judge_63 : decode cX5_judge 63 = .ok (.aload_n 0, 1) := by decide +kernel
theorem dX5_judge_64 : decode cX5_judge 64 = .ok (.getfield 10, 3) := by decide +kernel
theorem dX5_judge_67 : decode cX5_judge 67 = .ok (.iload_n 3, 1) := by decide +kernel
theorem dX5_judge_68 : decode cX5_judge 68 = .ok (.iconst 2, 1) := by decide +kernel
theorem dX5_judge_69 : decode cX5_judge 69 = .ok (.idiv, 1) := by decide +kernel
theorem dX5_judge_70 : decode cX5_judge 70 = .ok (.invokevirtual 120, 3) := by decide +kernel
theorem dX5_judge_73 : decode cX5_judge 73 = .ok (.ifCond .eq 28, 3) := by decide +kernel
theorem dX5_judge_76 : decode cX5_judge 76 = .ok (.aload_n 0, 1) := by decide +kernel
theorem dX5_judge_77 : decode cX5_judge 77 = .ok (.getfield 10, 3) := by decide +kernel
theorem dX5_judge_80 : decode cX5_judge 80 = .ok (.iload_n 3, 1) := by decide +kernel
theorem dX5_judge_81 : decode cX5_judge 81 = .ok (.iconst 2, 1) := by decide +kernel
theorem dX5_judge_82 : decode cX5_judge 82 = .ok (.idiv, 1) := by decide +kernel
theorem dX5_judge_83 : decode cX5_judge 83 = .ok (.aload_n 2, 1) := by decide +kernel
theorem dX5_judge_84 : decode cX5_judge 84 = .ok (.iload_n 3, 1) := by decide +kernel
theorem dX5_judge_85 : decode cX5_judge 85 = .ok (.invokevirtual 314, 3) := by decide +kernel
theorem dX5_judge_88 : decode cX5_judge 88 = .ok (.aload_n 2, 1) := by decide +kernel
theorem dX5_judge_89 : decode cX5_judge 89 = .ok (.iload_n 3, 1) := by decide +kernel
theorem dX5_judge_90 : decode cX5_judge 90 = .ok (.iconst 1, 1) := by decide +kernel
theorem dX5_judge_91 : decode cX5_judge 91 = .ok (.iadd, 1) := by decide +kernel
theorem dX5_judge_92 : decode cX5_judge 92 = .ok (.invokevirtual 314, 3) := by decide +kernel
theorem dX5_judge_95 : decode cX5_judge 95 = .ok (.invokevirtual 162, 3) := by decide +kernel
theorem dX5_judge_98 : decode cX5_judge 98 = .ok (.ifCond .ne 7, 3) := by decide +kernel
theorem dX5_judge_101 : decode cX5_judge 101 = .ok (.iconst 1, 1) := by decide +kernel
theorem dX5_judge_102 : decode cX5_judge 102 = .ok (.iload_n 3, 1) := by decide +kernel
theorem dX5_judge_103 : decode cX5_judge 103 = .ok (.iadd, 1) := by decide +kernel
theorem dX5_judge_104 : decode cX5_judge 104 = .ok (.ireturn, 1) := by decide +kernel
theorem dX5_judge_105 : decode cX5_judge 105 = .ok (.iinc 3 2, 3) := by decide +kernel
theorem dX5_judge_108 : decode cX5_judge 108 = .ok (.goto (-75), 3) := by decide +kernel
theorem dX5_judge_111 : decode cX5_judge 111 = .ok (.iconst 0, 1) := by decide +kernel
theorem dX5_judge_112 : decode cX5_judge 112 = .ok (.ireturn, 1) := by decide +kernel
theorem dX5_image_0 : decode cX5_image 0 = .ok (.aload_n 0, 1) := by decide +kernel
theorem dX5_image_1 : decode cX5_image 1 = .ok (.getfield 16, 3) := by decide +kernel
theorem dX5_image_4 : decode cX5_image 4 = .ok (.aload_n 0, 1) := by decide +kernel
theorem dX5_image_5 : decode cX5_image 5 = .ok (.getfield 10, 3) := by decide +kernel
theorem dX5_image_8 : decode cX5_image 8 = .ok (.invokevirtual 199, 3) := by decide +kernel
theorem dX5_image_11 : decode cX5_image 11 = .ok (.aload_n 0, 1) := by decide +kernel
theorem dX5_image_12 : decode cX5_image 12 = .ok (.iconst 1, 1) := by decide +kernel
theorem dX5_image_13 : decode cX5_image 13 = .ok (.putfield 47, 3) := by decide +kernel
theorem dX5_image_16 : decode cX5_image 16 = .ok (.iconst 1, 1) := by decide +kernel
theorem dX5_image_17 : decode cX5_image 17 = .ok (.ireturn, 1) := by decide +kernel
theorem dX5_undo_0 : decode cX5_undo 0 = .ok (.aload_n 0, 1) := by decide +kernel
theorem dX5_undo_1 : decode cX5_undo 1 = .ok (.getfield 47, 3) := by decide +kernel
theorem dX5_undo_4 : decode cX5_undo 4 = .ok (.ifCond .ne 10, 3) := by decide +kernel
theorem dX5_undo_7 : decode cX5_undo 7 = .ok (.aload_n 0, 1) := by decide +kernel
theorem dX5_undo_8 : decode cX5_undo 8 = .ok (.ldc 206, 2) := by decide +kernel
theorem dX5_undo_10 : decode cX5_undo 10 = .ok (.invokevirtual 58, 3) := by decide +kernel
theorem dX5_undo_13 : decode cX5_undo 13 = .ok (.ireturn, 1) := by decide +kernel
theorem dX5_undo_14 : decode cX5_undo 14 = .ok (.aload_n 0, 1) := by decide +kernel
theorem dX5_undo_15 : decode cX5_undo 15 = .ok (.getfield 10, 3) := by decide +kernel
theorem dX5_undo_18 : decode cX5_undo 18 = .ok (.aload_n 0, 1) := by decide +kernel
theorem dX5_undo_19 : decode cX5_undo 19 = .ok (.getfield 16, 3) := by decide +kernel
theorem dX5_undo_22 : decode cX5_undo 22 = .ok (.invokevirtual 199, 3) := by decide +kernel
theorem dX5_undo_25 : decode cX5_undo 25 = .ok (.aload_n 0, 1) := by decide +kernel
theorem dX5_undo_26 : decode cX5_undo 26 = .ok (.getfield 10, 3) := by decide +kernel
theorem dX5_undo_29 : decode cX5_undo 29 = .ok (.getfield 113, 3) := by decide +kernel
theorem dX5_undo_32 : decode cX5_undo 32 = .ok (.ireturn, 1) := by decide +kernel
theorem dX5_tear_0 : decode cX5_tear 0 = .ok (.aload_n 0, 1) := by decide +kernel
theorem dX5_tear_1 : decode cX5_tear 1 = .ok (.getfield 47, 3) := by decide +kernel
theorem dX5_tear_4 : decode cX5_tear 4 = .ok (.ifCond .eq 7, 3) := by decide +kernel
theorem dX5_tear_7 : decode cX5_tear 7 = .ok (.iconst 1, 1) := by decide +kernel
theorem dX5_tear_8 : decode cX5_tear 8 = .ok (.goto 4, 3) := by decide +kernel
theorem dX5_tear_11 : decode cX5_tear 11 = .ok (.iconst 0, 1) := by decide +kernel
theorem dX5_tear_12 : decode cX5_tear 12 = .ok (.istore_n 1, 1) := by decide +kernel
theorem dX5_tear_13 : decode cX5_tear 13 = .ok (.aload_n 0, 1) := by decide +kernel
theorem dX5_tear_14 : decode cX5_tear 14 = .ok (.iconst 0, 1) := by decide +kernel
theorem dX5_tear_15 : decode cX5_tear 15 = .ok (.putfield 47, 3) := by decide +kernel
theorem dX5_tear_18 : decode cX5_tear 18 = .ok (.iload_n 1, 1) := by decide +kernel
theorem dX5_tear_19 : decode cX5_tear 19 = .ok (.ireturn, 1) := by decide +kernel
theorem dX5_count_0 : decode cX5_count 0 = .ok (.iload_n 1, 1) := by decide +kernel
theorem dX5_count_1 : decode cX5_count 1 = .ok (.tableswitch 111 0 7 #[47, 55, 63, 71, 79, 87, 95, 103], 47) := by decide +kernel
theorem dX5_count_48 : decode cX5_count 48 = .ok (.aload_n 0, 1) := by decide +kernel
theorem dX5_count_49 : decode cX5_count 49 = .ok (.getfield 10, 3) := by decide +kernel
theorem dX5_count_52 : decode cX5_count 52 = .ok (.getfield 113, 3) := by decide +kernel
theorem dX5_count_55 : decode cX5_count 55 = .ok (.ireturn, 1) := by decide +kernel
theorem dX5_count_56 : decode cX5_count 56 = .ok (.aload_n 0, 1) := by decide +kernel
theorem dX5_count_57 : decode cX5_count 57 = .ok (.getfield 10, 3) := by decide +kernel
theorem dX5_count_60 : decode cX5_count 60 = .ok (.getfield 62, 3) := by decide +kernel
theorem dX5_count_63 : decode cX5_count 63 = .ok (.ireturn, 1) := by decide +kernel
theorem dX5_count_64 : decode cX5_count 64 = .ok (.aload_n 0, 1) := by decide +kernel
theorem dX5_count_65 : decode cX5_count 65 = .ok (.getfield 10, 3) := by decide +kernel
theorem dX5_count_68 : decode cX5_count 68 = .ok (.getfield 166, 3) := by decide +kernel
theorem dX5_count_71 : decode cX5_count 71 = .ok (.ireturn, 1) := by decide +kernel
theorem dX5_count_72 : decode cX5_count 72 = .ok (.aload_n 0, 1) := by decide +kernel
theorem dX5_count_73 : decode cX5_count 73 = .ok (.getfield 10, 3) := by decide +kernel
theorem dX5_count_76 : decode cX5_count 76 = .ok (.getfield 172, 3) := by decide +kernel
theorem dX5_count_79 : decode cX5_count 79 = .ok (.ireturn, 1) := by decide +kernel
theorem dX5_count_80 : decode cX5_count 80 = .ok (.aload_n 0, 1) := by decide +kernel
theorem dX5_count_81 : decode cX5_count 81 = .ok (.getfield 10, 3) := by decide +kernel
theorem dX5_count_84 : decode cX5_count 84 = .ok (.invokevirtual 317, 3) := by decide +kernel
theorem dX5_count_87 : decode cX5_count 87 = .ok (.ireturn, 1) := by decide +kernel
theorem dX5_count_88 : decode cX5_count 88 = .ok (.aload_n 0, 1) := by decide +kernel
theorem dX5_count_89 : decode cX5_count 89 = .ok (.getfield 32, 3) := by decide +kernel
theorem dX5_count_92 : decode cX5_count 92 = .ok (.getfield 260, 3) := by decide +kernel
theorem dX5_count_95 : decode cX5_count 95 = .ok (.ireturn, 1) := by decide +kernel
theorem dX5_count_96 : decode cX5_count 96 = .ok (.aload_n 0, 1) := by decide +kernel
theorem dX5_count_97 : decode cX5_count 97 = .ok (.getfield 10, 3) := by decide +kernel
theorem dX5_count_100 : decode cX5_count 100 = .ok (.getfield 257, 3) := by decide +kernel
theorem dX5_count_103 : decode cX5_count 103 = .ok (.ireturn, 1) := by decide +kernel
theorem dX5_count_104 : decode cX5_count 104 = .ok (.aload_n 0, 1) := by decide +kernel
theorem dX5_count_105 : decode cX5_count 105 = .ok (.getfield 10, 3) := by decide +kernel
theorem dX5_count_108 : decode cX5_count 108 = .ok (.invokevirtual 320, 3) := by decide +kernel
theorem dX5_count_111 : decode cX5_count 111 = .ok (.ireturn, 1) := by decide +kernel
theorem dX5_count_112 : decode cX5_count 112 = .ok (.aload_n 0, 1) := by decide +kernel
theorem dX5_count_113 : decode cX5_count 113 = .ok (.ldc 57, 2) := by decide +kernel
theorem dX5_count_115 : decode cX5_count 115 = .ok (.invokevirtual 58, 3) := by decide +kernel
theorem dX5_count_118 : decode cX5_count 118 = .ok (.ireturn, 1) := by decide +kernel
theorem dX5_status_0 : decode cX5_status 0 = .ok (.iload_n 1, 1) := by decide +kernel
theorem dX5_status_1 : decode cX5_status 1 = .ok (.iconst (-1), 1) := by decide +kernel
theorem dX5_status_2 : decode cX5_status 2 = .ok (.if_icmp .lt 9, 3) := by decide +kernel
theorem dX5_status_5 : decode cX5_status 5 = .ok (.iload_n 1, 1) := by decide +kernel
theorem dX5_status_6 : decode cX5_status 6 = .ok (.bipush 7, 2) := by decide +kernel
theorem dX5_status_8 : decode cX5_status 8 = .ok (.if_icmp .lt 10, 3) := by decide +kernel
theorem dX5_status_11 : decode cX5_status 11 = .ok (.aload_n 0, 1) := by decide +kernel
theorem dX5_status_12 : decode cX5_status 12 = .ok (.ldc 57, 2) := by decide +kernel
theorem dX5_status_14 : decode cX5_status 14 = .ok (.invokevirtual 58, 3) := by decide +kernel
theorem dX5_status_17 : decode cX5_status 17 = .ok (.ireturn, 1) := by decide +kernel
theorem dX5_status_18 : decode cX5_status 18 = .ok (.iload_n 1, 1) := by decide +kernel
theorem dX5_status_19 : decode cX5_status 19 = .ok (.ifCond .lt 10, 3) := by decide +kernel
theorem dX5_status_22 : decode cX5_status 22 = .ok (.aload_n 0, 1) := by decide +kernel
theorem dX5_status_23 : decode cX5_status 23 = .ok (.getfield 43, 3) := by decide +kernel
theorem dX5_status_26 : decode cX5_status 26 = .ok (.iload_n 1, 1) := by decide +kernel
theorem dX5_status_27 : decode cX5_status 27 = .ok (.iaload, 1) := by decide +kernel
theorem dX5_status_28 : decode cX5_status 28 = .ok (.ireturn, 1) := by decide +kernel
theorem dX5_status_29 : decode cX5_status 29 = .ok (.iconst 0, 1) := by decide +kernel
theorem dX5_status_30 : decode cX5_status 30 = .ok (.istore_n 2, 1) := by decide +kernel
theorem dX5_status_31 : decode cX5_status 31 = .ok (.iconst 0, 1) := by decide +kernel
theorem dX5_status_32 : decode cX5_status 32 = .ok (.istore_n 3, 1) := by decide +kernel
theorem dX5_status_33 : decode cX5_status 33 = .ok (.iload_n 3, 1) := by decide +kernel
theorem dX5_status_34 : decode cX5_status 34 = .ok (.bipush 7, 2) := by decide +kernel
theorem dX5_status_36 : decode cX5_status 36 = .ok (.if_icmp .ge 18, 3) := by decide +kernel
theorem dX5_status_39 : decode cX5_status 39 = .ok (.iload_n 2, 1) := by decide +kernel
theorem dX5_status_40 : decode cX5_status 40 = .ok (.aload_n 0, 1) := by decide +kernel
theorem dX5_status_41 : decode cX5_status 41 = .ok (.getfield 43, 3) := by decide +kernel
theorem dX5_status_44 : decode cX5_status 44 = .ok (.iload_n 3, 1) := by decide +kernel
theorem dX5_status_45 : decode cX5_status 45 = .ok (.iaload, 1) := by decide +kernel
theorem dX5_status_46 : decode cX5_status 46 = .ok (.iadd, 1) := by decide +kernel
theorem dX5_status_47 : decode cX5_status 47 = .ok (.istore_n 2, 1) := by decide +kernel
theorem dX5_status_48 : decode cX5_status 48 = .ok (.iinc 3 1, 3) := by decide +kernel
theorem dX5_status_51 : decode cX5_status 51 = .ok (.goto (-18), 3) := by decide +kernel
theorem dX5_status_54 : decode cX5_status 54 = .ok (.iload_n 2, 1) := by decide +kernel
theorem dX5_status_55 : decode cX5_status 55 = .ok (.ireturn, 1) := by decide +kernel
theorem dX5_finding_0 : decode cX5_finding 0 = .ok (.ldc 57, 2) := by decide +kernel
theorem dX5_finding_2 : decode cX5_finding 2 = .ok (.iload_n 1, 1) := by decide +kernel
theorem dX5_finding_3 : decode cX5_finding 3 = .ok (.isub, 1) := by decide +kernel
theorem dX5_finding_4 : decode cX5_finding 4 = .ok (.istore_n 2, 1) := by decide +kernel
theorem dX5_finding_5 : decode cX5_finding 5 = .ok (.iload_n 2, 1) := by decide +kernel
theorem dX5_finding_6 : decode cX5_finding 6 = .ok (.ifCond .lt 22, 3) := by decide +kernel
theorem dX5_finding_9 : decode cX5_finding 9 = .ok (.iload_n 2, 1) := by decide +kernel
theorem dX5_finding_10 : decode cX5_finding 10 = .ok (.aload_n 0, 1) := by decide +kernel
theorem dX5_finding_11 : decode cX5_finding 11 = .ok (.getfield 43, 3) := by decide +kernel
theorem dX5_finding_14 : decode cX5_finding 14 = .ok (.arraylength, 1) := by decide +kernel
theorem dX5_finding_15 : decode cX5_finding 15 = .ok (.if_icmp .ge 13, 3) := by decide +kernel
theorem dX5_finding_18 : decode cX5_finding 18 = .ok (.aload_n 0, 1) := by decide +kernel
theorem dX5_finding_19 : decode cX5_finding 19 = .ok (.getfield 43, 3) := by decide +kernel
theorem dX5_finding_22 : decode cX5_finding 22 = .ok (.iload_n 2, 1) := by decide +kernel
theorem dX5_finding_23 : decode cX5_finding 23 = .ok (.dup2, 1) := by decide +kernel
theorem dX5_finding_24 : decode cX5_finding 24 = .ok (.iaload, 1) := by decide +kernel
theorem dX5_finding_25 : decode cX5_finding 25 = .ok (.iconst 1, 1) := by decide +kernel
theorem dX5_finding_26 : decode cX5_finding 26 = .ok (.iadd, 1) := by decide +kernel
theorem dX5_finding_27 : decode cX5_finding 27 = .ok (.iastore, 1) := by decide +kernel
theorem dX5_finding_28 : decode cX5_finding 28 = .ok (.iload_n 1, 1) := by decide +kernel
theorem dX5_finding_29 : decode cX5_finding 29 = .ok (.ireturn, 1) := by decide +kernel
theorem dX5_isHand_0 : decode cX5_isHand 0 = .ok (.iload_n 0, 1) := by decide +kernel
theorem dX5_isHand_1 : decode cX5_isHand 1 = .ok (.ifCond .eq 8, 3) := by decide +kernel
theorem dX5_isHand_4 : decode cX5_isHand 4 = .ok (.iload_n 0, 1) := by decide +kernel
theorem dX5_isHand_5 : decode cX5_isHand 5 = .ok (.iconst 1, 1) := by decide +kernel
theorem dX5_isHand_6 : decode cX5_isHand 6 = .ok (.if_icmp .ne 7, 3) := by decide +kernel
theorem dX5_isHand_9 : decode cX5_isHand 9 = .ok (.iconst 1, 1) := by decide +kernel
theorem dX5_isHand_10 : decode cX5_isHand 10 = .ok (.goto 4, 3) := by decide +kernel
theorem dX5_isHand_13 : decode cX5_isHand 13 = .ok (.iconst 0, 1) := by decide +kernel
theorem dX5_isHand_14 : decode cX5_isHand 14 = .ok (.ireturn, 1) := by decide +kernel
theorem dX5_isWorth_0 : decode cX5_isWorth 0 = .ok (.iload_n 0, 1) := by decide +kernel
theorem dX5_isWorth_1 : decode cX5_isWorth 1 = .ok (.ifCond .eq 8, 3) := by decide +kernel
theorem dX5_isWorth_4 : decode cX5_isWorth 4 = .ok (.iload_n 0, 1) := by decide +kernel
theorem dX5_isWorth_5 : decode cX5_isWorth 5 = .ok (.iconst 1, 1) := by decide +kernel
theorem dX5_isWorth_6 : decode cX5_isWorth 6 = .ok (.if_icmp .ne 7, 3) := by decide +kernel
theorem dX5_isWorth_9 : decode cX5_isWorth 9 = .ok (.iconst 1, 1) := by decide +kernel
theorem dX5_isWorth_10 : decode cX5_isWorth 10 = .ok (.goto 4, 3) := by decide +kernel
theorem dX5_isWorth_13 : decode cX5_isWorth 13 = .ok (.iconst 0, 1) := by decide +kernel
theorem dX5_isWorth_14 : decode cX5_isWorth 14 = .ok (.ireturn, 1) := by decide +kernel
theorem dX5_isSize_0 : decode cX5_isSize 0 = .ok (.iload_n 0, 1) := by decide +kernel
theorem dX5_isSize_1 : decode cX5_isSize 1 = .ok (.iconst 1, 1) := by decide +kernel
theorem dX5_isSize_2 : decode cX5_isSize 2 = .ok (.if_icmp .lt 13, 3) := by decide +kernel
theorem dX5_isSize_5 : decode cX5_isSize 5 = .ok (.iload_n 0, 1) := by decide +kernel
theorem dX5_isSize_6 : decode cX5_isSize 6 = .ok (.bipush 9, 2) := by decide +kernel
theorem dX5_isSize_8 : decode cX5_isSize 8 = .ok (.if_icmp .gt 7, 3) := by decide +kernel
theorem dX5_isSize_11 : decode cX5_isSize 11 = .ok (.iconst 1, 1) := by decide +kernel
theorem dX5_isSize_12 : decode cX5_isSize 12 = .ok (.goto 4, 3) := by decide +kernel
theorem dX5_isSize_15 : decode cX5_isSize 15 = .ok (.iconst 0, 1) := by decide +kernel
theorem dX5_isSize_16 : decode cX5_isSize 16 = .ok (.ireturn, 1) := by decide +kernel
theorem dX5_sheetAt_0 : decode cX5_sheetAt 0 = .ok (.iload_n 1, 1) := by decide +kernel
theorem dX5_sheetAt_1 : decode cX5_sheetAt 1 = .ok (.ifCond .lt 21, 3) := by decide +kernel
theorem dX5_sheetAt_4 : decode cX5_sheetAt 4 = .ok (.iload_n 1, 1) := by decide +kernel
theorem dX5_sheetAt_5 : decode cX5_sheetAt 5 = .ok (.aload_n 0, 1) := by decide +kernel
theorem dX5_sheetAt_6 : decode cX5_sheetAt 6 = .ok (.getfield 38, 3) := by decide +kernel
theorem dX5_sheetAt_9 : decode cX5_sheetAt 9 = .ok (.arraylength, 1) := by decide +kernel
theorem dX5_sheetAt_10 : decode cX5_sheetAt 10 = .ok (.if_icmp .ge 12, 3) := by decide +kernel
theorem dX5_sheetAt_13 : decode cX5_sheetAt 13 = .ok (.aload_n 0, 1) := by decide +kernel
theorem dX5_sheetAt_14 : decode cX5_sheetAt 14 = .ok (.getfield 38, 3) := by decide +kernel
theorem dX5_sheetAt_17 : decode cX5_sheetAt 17 = .ok (.iload_n 1, 1) := by decide +kernel
theorem dX5_sheetAt_18 : decode cX5_sheetAt 18 = .ok (.aaload, 1) := by decide +kernel
theorem dX5_sheetAt_19 : decode cX5_sheetAt 19 = .ok (.goto 4, 3) := by decide +kernel
theorem dX5_sheetAt_22 : decode cX5_sheetAt 22 = .ok (.aconst_null, 1) := by decide +kernel
theorem dX5_sheetAt_23 : decode cX5_sheetAt 23 = .ok (.areturn, 1) := by decide +kernel
theorem dX5_bestPair_0 : decode cX5_bestPair 0 = .ok (.iconst 0, 1) := by decide +kernel
theorem dX5_bestPair_1 : decode cX5_bestPair 1 = .ok (.istore_n 1, 1) := by decide +kernel
theorem dX5_bestPair_2 : decode cX5_bestPair 2 = .ok (.aload_n 0, 1) := by decide +kernel
theorem dX5_bestPair_3 : decode cX5_bestPair 3 = .ok (.iconst 0, 1) := by decide +kernel
theorem dX5_bestPair_4 : decode cX5_bestPair 4 = .ok (.invokevirtual 211, 3) := by decide +kernel
theorem dX5_bestPair_7 : decode cX5_bestPair 7 = .ok (.istore_n 2, 1) := by decide +kernel
theorem dX5_bestPair_8 : decode cX5_bestPair 8 = .ok (.iconst 0, 1) := by decide +kernel
theorem dX5_bestPair_9 : decode cX5_bestPair 9 = .ok (.istore_n 3, 1) := by decide +kernel
theorem dX5_bestPair_10 : decode cX5_bestPair 10 = .ok (.iload_n 3, 1) := by decide +kernel
theorem dX5_bestPair_11 : decode cX5_bestPair 11 = .ok (.aload_n 0, 1) := by decide +kernel
theorem dX5_bestPair_12 : decode cX5_bestPair 12 = .ok (.getfield 10, 3) := by decide +kernel
theorem dX5_bestPair_15 : decode cX5_bestPair 15 = .ok (.getfield 62, 3) := by decide +kernel
theorem dX5_bestPair_18 : decode cX5_bestPair 18 = .ok (.if_icmp .ge 62, 3) := by decide +kernel
theorem dX5_bestPair_21 : decode cX5_bestPair 21 = .ok (.iload_n 3, 1) := by decide +kernel
theorem dX5_bestPair_22 : decode cX5_bestPair 22 = .ok (.iconst 1, 1) := by decide +kernel
theorem dX5_bestPair_23 : decode cX5_bestPair 23 = .ok (.iadd, 1) := by decide +kernel
theorem dX5_bestPair_24 : decode cX5_bestPair 24 = .ok (.istore 4, 2) := by decide +kernel
theorem dX5_bestPair_26 : decode cX5_bestPair 26 = .ok (.iload 4, 2) := by decide +kernel
theorem dX5_bestPair_28 : decode cX5_bestPair 28 = .ok (.aload_n 0, 1) := by decide +kernel
theorem dX5_bestPair_29 : decode cX5_bestPair 29 = .ok (.getfield 10, 3) := by decide +kernel
theorem dX5_bestPair_32 : decode cX5_bestPair 32 = .ok (.getfield 62, 3) := by decide +kernel
theorem dX5_bestPair_35 : decode cX5_bestPair 35 = .ok (.if_icmp .ge 39, 3) := by decide +kernel
theorem dX5_bestPair_38 : decode cX5_bestPair 38 = .ok (.aload_n 0, 1) := by decide +kernel
theorem dX5_bestPair_39 : decode cX5_bestPair 39 = .ok (.bipush 10, 2) := by decide +kernel
theorem dX5_bestPair_41 : decode cX5_bestPair 41 = .ok (.iload_n 3, 1) := by decide +kernel
theorem dX5_bestPair_42 : decode cX5_bestPair 42 = .ok (.imul, 1) := by decide +kernel
theorem dX5_bestPair_43 : decode cX5_bestPair 43 = .ok (.iload 4, 2) := by decide +kernel
theorem dX5_bestPair_45 : decode cX5_bestPair 45 = .ok (.iadd, 1) := by decide +kernel
theorem dX5_bestPair_46 : decode cX5_bestPair 46 = .ok (.invokevirtual 211, 3) := by decide +kernel
theorem dX5_bestPair_49 : decode cX5_bestPair 49 = .ok (.istore 5, 2) := by decide +kernel
theorem dX5_bestPair_51 : decode cX5_bestPair 51 = .ok (.iload 5, 2) := by decide +kernel
theorem dX5_bestPair_53 : decode cX5_bestPair 53 = .ok (.iload_n 2, 1) := by decide +kernel
theorem dX5_bestPair_54 : decode cX5_bestPair 54 = .ok (.if_icmp .ge 14, 3) := by decide +kernel
theorem dX5_bestPair_57 : decode cX5_bestPair 57 = .ok (.bipush 10, 2) := by decide +kernel
theorem dX5_bestPair_59 : decode cX5_bestPair 59 = .ok (.iload_n 3, 1) := by decide +kernel
theorem dX5_bestPair_60 : decode cX5_bestPair 60 = .ok (.imul, 1) := by decide +kernel
theorem dX5_bestPair_61 : decode cX5_bestPair 61 = .ok (.iload 4, 2) := by decide +kernel
theorem dX5_bestPair_63 : decode cX5_bestPair 63 = .ok (.iadd, 1) := by decide +kernel
theorem dX5_bestPair_64 : decode cX5_bestPair 64 = .ok (.istore_n 1, 1) := by decide +kernel
theorem dX5_bestPair_65 : decode cX5_bestPair 65 = .ok (.iload 5, 2) := by decide +kernel
theorem dX5_bestPair_67 : decode cX5_bestPair 67 = .ok (.istore_n 2, 1) := by decide +kernel
theorem dX5_bestPair_68 : decode cX5_bestPair 68 = .ok (.iinc 4 1, 3) := by decide +kernel
theorem dX5_bestPair_71 : decode cX5_bestPair 71 = .ok (.goto (-45), 3) := by decide +kernel
theorem dX5_bestPair_74 : decode cX5_bestPair 74 = .ok (.iinc 3 1, 3) := by decide +kernel
theorem dX5_bestPair_77 : decode cX5_bestPair 77 = .ok (.goto (-67), 3) := by decide +kernel
theorem dX5_bestPair_80 : decode cX5_bestPair 80 = .ok (.iload_n 1, 1) := by decide +kernel
theorem dX5_bestPair_81 : decode cX5_bestPair 81 = .ok (.ireturn, 1) := by decide +kernel
theorem dX5_worthIfSwapped_0 : decode cX5_worthIfSwapped 0 = .ok (.aload_n 0, 1) := by decide +kernel
theorem dX5_worthIfSwapped_1 : decode cX5_worthIfSwapped 1 = .ok (.getfield 19, 3) := by decide +kernel
theorem dX5_worthIfSwapped_4 : decode cX5_worthIfSwapped 4 = .ok (.aload_n 0, 1) := by decide +kernel
theorem dX5_worthIfSwapped_5 : decode cX5_worthIfSwapped 5 = .ok (.getfield 10, 3) := by decide +kernel
theorem dX5_worthIfSwapped_8 : decode cX5_worthIfSwapped 8 = .ok (.invokevirtual 199, 3) := by decide +kernel
theorem dX5_worthIfSwapped_11 : decode cX5_worthIfSwapped 11 = .ok (.iload_n 1, 1) := by decide +kernel
theorem dX5_worthIfSwapped_12 : decode cX5_worthIfSwapped 12 = .ok (.ifCond .eq 18, 3) := by decide +kernel
theorem dX5_worthIfSwapped_15 : decode cX5_worthIfSwapped 15 = .ok (.aload_n 0, 1) := by decide +kernel
theorem dX5_worthIfSwapped_16 : decode cX5_worthIfSwapped 16 = .ok (.getfield 19, 3) := by decide +kernel
theorem dX5_worthIfSwapped_19 : decode cX5_worthIfSwapped 19 = .ok (.iload_n 1, 1) := by decide +kernel
theorem dX5_worthIfSwapped_20 : decode cX5_worthIfSwapped 20 = .ok (.bipush 10, 2) := by decide +kernel
theorem dX5_worthIfSwapped_22 : decode cX5_worthIfSwapped 22 = .ok (.idiv, 1) := by decide +kernel
theorem dX5_worthIfSwapped_23 : decode cX5_worthIfSwapped 23 = .ok (.iload_n 1, 1) := by decide +kernel
theorem dX5_worthIfSwapped_24 : decode cX5_worthIfSwapped 24 = .ok (.bipush 10, 2) := by decide +kernel
theorem dX5_worthIfSwapped_26 : decode cX5_worthIfSwapped 26 = .ok (.irem, 1) := by decide +kernel
theorem dX5_worthIfSwapped_27 : decode cX5_worthIfSwapped 27 = .ok (.invokevirtual 101, 3) := by decide +kernel
theorem dX5_worthIfSwapped_30 : decode cX5_worthIfSwapped 30 = .ok (.aload_n 0, 1) := by decide +kernel
theorem dX5_worthIfSwapped_31 : decode cX5_worthIfSwapped 31 = .ok (.getfield 25, 3) := by decide +kernel
theorem dX5_worthIfSwapped_34 : decode cX5_worthIfSwapped 34 = .ok (.aload_n 0, 1) := by decide +kernel
theorem dX5_worthIfSwapped_35 : decode cX5_worthIfSwapped 35 = .ok (.getfield 19, 3) := by decide +kernel
theorem dX5_worthIfSwapped_38 : decode cX5_worthIfSwapped 38 = .ok (.iconst 1, 1) := by decide +kernel
theorem dX5_worthIfSwapped_39 : decode cX5_worthIfSwapped 39 = .ok (.invokevirtual 185, 3) := by decide +kernel
theorem dX5_worthIfSwapped_42 : decode cX5_worthIfSwapped 42 = .ok (.ireturn, 1) := by decide +kernel
theorem dX5_rowsBy_0 : decode cX5_rowsBy 0 = .ok (.lconst 1, 1) := by decide +kernel
theorem dX5_rowsBy_1 : decode cX5_rowsBy 1 = .ok (.lstore_n 2, 1) := by decide +kernel
theorem dX5_rowsBy_2 : decode cX5_rowsBy 2 = .ok (.iconst 0, 1) := by decide +kernel
theorem dX5_rowsBy_3 : decode cX5_rowsBy 3 = .ok (.istore 4, 2) := by decide +kernel
theorem dX5_rowsBy_5 : decode cX5_rowsBy 5 = .ok (.iload 4, 2) := by decide +kernel
theorem dX5_rowsBy_7 : decode cX5_rowsBy 7 = .ok (.aload_n 0, 1) := by decide +kernel
theorem dX5_rowsBy_8 : decode cX5_rowsBy 8 = .ok (.getfield 10, 3) := by decide +kernel
theorem dX5_rowsBy_11 : decode cX5_rowsBy 11 = .ok (.getfield 113, 3) := by decide +kernel
theorem dX5_rowsBy_14 : decode cX5_rowsBy 14 = .ok (.if_icmp .ge 76, 3) := by decide +kernel
theorem dX5_rowsBy_17 : decode cX5_rowsBy 17 = .ok (.iconst 0, 1) := by decide +kernel
theorem dX5_rowsBy_18 : decode cX5_rowsBy 18 = .ok (.istore 5, 2) := by decide +kernel
theorem dX5_rowsBy_20 : decode cX5_rowsBy 20 = .ok (.iconst (-1), 1) := by decide +kernel
theorem dX5_rowsBy_21 : decode cX5_rowsBy 21 = .ok (.istore 6, 2) := by decide +kernel
theorem dX5_rowsBy_23 : decode cX5_rowsBy 23 = .ok (.iload 6, 2) := by decide +kernel
theorem dX5_rowsBy_25 : decode cX5_rowsBy 25 = .ok (.aload_n 0, 1) := by decide +kernel
theorem dX5_rowsBy_26 : decode cX5_rowsBy 26 = .ok (.getfield 10, 3) := by decide +kernel
theorem dX5_rowsBy_29 : decode cX5_rowsBy 29 = .ok (.getfield 62, 3) := by decide +kernel
theorem dX5_rowsBy_32 : decode cX5_rowsBy 32 = .ok (.if_icmp .ge 40, 3) := by decide +kernel
theorem dX5_rowsBy_35 : decode cX5_rowsBy 35 = .ok (.aload_n 0, 1) := by decide +kernel
theorem dX5_rowsBy_36 : decode cX5_rowsBy 36 = .ok (.aload_n 1, 1) := by decide +kernel
theorem dX5_rowsBy_37 : decode cX5_rowsBy 37 = .ok (.iload 4, 2) := by decide +kernel
theorem dX5_rowsBy_39 : decode cX5_rowsBy 39 = .ok (.iload 6, 2) := by decide +kernel
theorem dX5_rowsBy_41 : decode cX5_rowsBy 41 = .ok (.invokevirtual 323, 3) := by decide +kernel
theorem dX5_rowsBy_44 : decode cX5_rowsBy 44 = .ok (.ifCond .eq 22, 3) := by decide +kernel
theorem dX5_rowsBy_47 : decode cX5_rowsBy 47 = .ok (.iload 5, 2) := by decide +kernel
theorem dX5_rowsBy_49 : decode cX5_rowsBy 49 = .ok (.aload_n 0, 1) := by decide +kernel
theorem dX5_rowsBy_50 : decode cX5_rowsBy 50 = .ok (.getfield 10, 3) := by decide +kernel
theorem dX5_rowsBy_53 : decode cX5_rowsBy 53 = .ok (.iload 4, 2) := by decide +kernel
theorem dX5_rowsBy_55 : decode cX5_rowsBy 55 = .ok (.iload 6, 2) := by decide +kernel
theorem dX5_rowsBy_57 : decode cX5_rowsBy 57 = .ok (.invokevirtual 327, 3) := by decide +kernel
theorem dX5_rowsBy_60 : decode cX5_rowsBy 60 = .ok (.invokestatic 330, 3) := by decide +kernel
theorem dX5_rowsBy_63 : decode cX5_rowsBy 63 = .ok (.iadd, 1) := by decide +kernel
theorem dX5_rowsBy_64 : decode cX5_rowsBy 64 = .ok (.istore 5, 2) := by decide +kernel
theorem dX5_rowsBy_66 : decode cX5_rowsBy 66 = .ok (.iinc 6 1, 3) := by decide +kernel
theorem dX5_rowsBy_69 : decode cX5_rowsBy 69 = .ok (.goto (-46), 3) := by decide +kernel
theorem dX5_rowsBy_72 : decode cX5_rowsBy 72 = .ok (.lload_n 2, 1) := by decide +kernel
theorem dX5_rowsBy_73 : decode cX5_rowsBy 73 = .ok (.iload 5, 2) := by decide +kernel
theorem dX5_rowsBy_75 : decode cX5_rowsBy 75 = .ok (.i2l, 1) := by decide +kernel
theorem dX5_rowsBy_76 : decode cX5_rowsBy 76 = .ok (.lmul, 1) := by decide +kernel
theorem dX5_rowsBy_77 : decode cX5_rowsBy 77 = .ok (.ldc2_w 335, 3) := by decide +kernel
theorem dX5_rowsBy_80 : decode cX5_rowsBy 80 = .ok (.invokestatic 337, 3) := by decide +kernel
theorem dX5_rowsBy_83 : decode cX5_rowsBy 83 = .ok (.lstore_n 2, 1) := by decide +kernel
theorem dX5_rowsBy_84 : decode cX5_rowsBy 84 = .ok (.iinc 4 1, 3) := by decide +kernel
theorem dX5_rowsBy_87 : decode cX5_rowsBy 87 = .ok (.goto (-82), 3) := by decide +kernel
theorem dX5_rowsBy_90 : decode cX5_rowsBy 90 = .ok (.lload_n 2, 1) := by decide +kernel
theorem dX5_rowsBy_91 : decode cX5_rowsBy 91 = .ok (.lreturn, 1) := by decide +kernel
theorem dX5_rightsBy_0 : decode cX5_rightsBy 0 = .ok (.iconst 0, 1) := by decide +kernel
theorem dX5_rightsBy_1 : decode cX5_rightsBy 1 = .ok (.istore_n 3, 1) := by decide +kernel
theorem dX5_rightsBy_2 : decode cX5_rightsBy 2 = .ok (.iconst (-1), 1) := by decide +kernel
theorem dX5_rightsBy_3 : decode cX5_rightsBy 3 = .ok (.istore 4, 2) := by decide +kernel
theorem dX5_rightsBy_5 : decode cX5_rightsBy 5 = .ok (.iload 4, 2) := by decide +kernel
theorem dX5_rightsBy_7 : decode cX5_rightsBy 7 = .ok (.aload_n 0, 1) := by decide +kernel
theorem dX5_rightsBy_8 : decode cX5_rightsBy 8 = .ok (.getfield 10, 3) := by decide +kernel
theorem dX5_rightsBy_11 : decode cX5_rightsBy 11 = .ok (.getfield 62, 3) := by decide +kernel
theorem dX5_rightsBy_14 : decode cX5_rightsBy 14 = .ok (.if_icmp .ge 33, 3) := by decide +kernel
theorem dX5_rightsBy_17 : decode cX5_rightsBy 17 = .ok (.aload_n 0, 1) := by decide +kernel
theorem dX5_rightsBy_18 : decode cX5_rightsBy 18 = .ok (.aload_n 1, 1) := by decide +kernel
theorem dX5_rightsBy_19 : decode cX5_rightsBy 19 = .ok (.iload_n 2, 1) := by decide +kernel
theorem dX5_rightsBy_20 : decode cX5_rightsBy 20 = .ok (.iload 4, 2) := by decide +kernel
theorem dX5_rightsBy_22 : decode cX5_rightsBy 22 = .ok (.invokevirtual 323, 3) := by decide +kernel
theorem dX5_rightsBy_25 : decode cX5_rightsBy 25 = .ok (.ifCond .eq 16, 3) := by decide +kernel
theorem dX5_rightsBy_28 : decode cX5_rightsBy 28 = .ok (.iload_n 3, 1) := by decide +kernel
theorem dX5_rightsBy_29 : decode cX5_rightsBy 29 = .ok (.aload_n 0, 1) := by decide +kernel
theorem dX5_rightsBy_30 : decode cX5_rightsBy 30 = .ok (.getfield 10, 3) := by decide +kernel
theorem dX5_rightsBy_33 : decode cX5_rightsBy 33 = .ok (.iload_n 2, 1) := by decide +kernel
theorem dX5_rightsBy_34 : decode cX5_rightsBy 34 = .ok (.iload 4, 2) := by decide +kernel
theorem dX5_rightsBy_36 : decode cX5_rightsBy 36 = .ok (.invokevirtual 327, 3) := by decide +kernel
theorem dX5_rightsBy_39 : decode cX5_rightsBy 39 = .ok (.ior, 1) := by decide +kernel
theorem dX5_rightsBy_40 : decode cX5_rightsBy 40 = .ok (.istore_n 3, 1) := by decide +kernel
theorem dX5_rightsBy_41 : decode cX5_rightsBy 41 = .ok (.iinc 4 1, 3) := by decide +kernel
theorem dX5_rightsBy_44 : decode cX5_rightsBy 44 = .ok (.goto (-39), 3) := by decide +kernel
theorem dX5_rightsBy_47 : decode cX5_rightsBy 47 = .ok (.iload_n 3, 1) := by decide +kernel
theorem dX5_rightsBy_48 : decode cX5_rightsBy 48 = .ok (.iconst 1, 1) := by decide +kernel
theorem dX5_rightsBy_49 : decode cX5_rightsBy 49 = .ok (.ishr, 1) := by decide +kernel
theorem dX5_rightsBy_50 : decode cX5_rightsBy 50 = .ok (.ireturn, 1) := by decide +kernel
theorem dX5_isDrawn_0 : decode cX5_isDrawn 0 = .ok (.aload_n 1, 1) := by decide +kernel
theorem dX5_isDrawn_1 : decode cX5_isDrawn 1 = .ok (.iload_n 2, 1) := by decide +kernel
theorem dX5_isDrawn_2 : decode cX5_isDrawn 2 = .ok (.invokevirtual 293, 3) := by decide +kernel
theorem dX5_isDrawn_5 : decode cX5_isDrawn 5 = .ok (.ifCond .ne 5, 3) := by decide +kernel
theorem dX5_isDrawn_8 : decode cX5_isDrawn 8 = .ok (.iconst 1, 1) := by decide +kernel
theorem dX5_isDrawn_9 : decode cX5_isDrawn 9 = .ok (.ireturn, 1) := by decide +kernel
theorem dX5_isDrawn_10 : decode cX5_isDrawn 10 = .ok (.aload_n 1, 1) := by decide +kernel
theorem dX5_isDrawn_11 : decode cX5_isDrawn 11 = .ok (.iload_n 2, 1) := by decide +kernel
theorem dX5_isDrawn_12 : decode cX5_isDrawn 12 = .ok (.invokevirtual 314, 3) := by decide +kernel
theorem dX5_isDrawn_15 : decode cX5_isDrawn 15 = .ok (.istore 4, 2) := by decide +kernel
theorem dX5_isDrawn_17 : decode cX5_isDrawn 17 = .ok (.iload 4, 2) := by decide +kernel
theorem dX5_isDrawn_19 : decode cX5_isDrawn 19 = .ok (.iload_n 3, 1) := by decide +kernel
theorem dX5_isDrawn_20 : decode cX5_isDrawn 20 = .ok (.if_icmp .eq 15, 3) := by decide +kernel
theorem dX5_isDrawn_23 : decode cX5_isDrawn 23 = .ok (.aload_n 0, 1) := by decide +kernel
theorem dX5_isDrawn_24 : decode cX5_isDrawn 24 = .ok (.getfield 10, 3) := by decide +kernel
theorem dX5_isDrawn_27 : decode cX5_isDrawn 27 = .ok (.iload 4, 2) := by decide +kernel
theorem dX5_isDrawn_29 : decode cX5_isDrawn 29 = .ok (.invokevirtual 110, 3) := by decide +kernel
theorem dX5_isDrawn_32 : decode cX5_isDrawn 32 = .ok (.ifCond .ne 7, 3) := by decide +kernel
theorem dX5_isDrawn_35 : decode cX5_isDrawn 35 = .ok (.iconst 1, 1) := by decide +kernel
theorem dX5_isDrawn_36 : decode cX5_isDrawn 36 = .ok (.goto 4, 3) := by decide +kernel
theorem dX5_isDrawn_39 : decode cX5_isDrawn 39 = .ok (.iconst 0, 1) := by decide +kernel
theorem dX5_isDrawn_40 : decode cX5_isDrawn 40 = .ok (.ireturn, 1) := by decide +kernel
