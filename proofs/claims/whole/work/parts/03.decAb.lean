theorem dX1_wanted_33 : decode cX1_wanted 33 = .ok (.ireturn, 1) := by decide +kernel
theorem dX1_wanted_34 : decode cX1_wanted 34 = .ok (.iconst 1, 1) := by decide +kernel
theorem dX1_wanted_35 : decode cX1_wanted 35 = .ok (.ireturn, 1) := by decide +kernel
theorem dX1_wanted_36 : decode cX1_wanted 36 = .ok (.iconst 0, 1) := by decide +kernel
theorem dX1_wanted_37 : decode cX1_wanted 37 = .ok (.ireturn, 1) := by decide +kernel
theorem dX1_on_0 : decode cX1_on 0 = .ok (.iload_n 0, 1) := by decide +kernel
theorem dX1_on_1 : decode cX1_on 1 = .ok (.tableswitch 69 1 6 #[39, 41, 46, 50, 56, 43], 39) := by decide +kernel
theorem dX1_on_40 : decode cX1_on 40 = .ok (.iconst 1, 1) := by decide +kernel
theorem dX1_on_41 : decode cX1_on 41 = .ok (.ireturn, 1) := by decide +kernel
theorem dX1_on_42 : decode cX1_on 42 = .ok (.iconst 3, 1) := by decide +kernel
theorem dX1_on_43 : decode cX1_on 43 = .ok (.ireturn, 1) := by decide +kernel
theorem dX1_on_44 : decode cX1_on 44 = .ok (.bipush 6, 2) := by decide +kernel
theorem dX1_on_46 : decode cX1_on 46 = .ok (.ireturn, 1) := by decide +kernel
theorem dX1_on_47 : decode cX1_on 47 = .ok (.iconst 2, 1) := by decide +kernel
theorem dX1_on_48 : decode cX1_on 48 = .ok (.iload_n 1, 1) := by decide +kernel
theorem dX1_on_49 : decode cX1_on 49 = .ok (.imul, 1) := by decide +kernel
theorem dX1_on_50 : decode cX1_on 50 = .ok (.ireturn, 1) := by decide +kernel
theorem dX1_on_51 : decode cX1_on 51 = .ok (.iconst 2, 1) := by decide +kernel
theorem dX1_on_52 : decode cX1_on 52 = .ok (.iload_n 1, 1) := by decide +kernel
theorem dX1_on_53 : decode cX1_on 53 = .ok (.imul, 1) := by decide +kernel
theorem dX1_on_54 : decode cX1_on 54 = .ok (.iconst 3, 1) := by decide +kernel
theorem dX1_on_55 : decode cX1_on 55 = .ok (.iadd, 1) := by decide +kernel
theorem dX1_on_56 : decode cX1_on 56 = .ok (.ireturn, 1) := by decide +kernel
theorem dX1_on_57 : decode cX1_on 57 = .ok (.iload_n 1, 1) := by decide +kernel
theorem dX1_on_58 : decode cX1_on 58 = .ok (.iconst 1, 1) := by decide +kernel
theorem dX1_on_59 : decode cX1_on 59 = .ok (.if_icmp .le 9, 3) := by decide +kernel
theorem dX1_on_62 : decode cX1_on 62 = .ok (.iload_n 1, 1) := by decide +kernel
theorem dX1_on_63 : decode cX1_on 63 = .ok (.iconst 2, 1) := by decide +kernel
theorem dX1_on_64 : decode cX1_on 64 = .ok (.idiv, 1) := by decide +kernel
theorem dX1_on_65 : decode cX1_on 65 = .ok (.goto 4, 3) := by decide +kernel
theorem dX1_on_68 : decode cX1_on 68 = .ok (.iconst 1, 1) := by decide +kernel
theorem dX1_on_69 : decode cX1_on 69 = .ok (.ireturn, 1) := by decide +kernel
theorem dX1_on_70 : decode cX1_on 70 = .ok (.iload_n 1, 1) := by decide +kernel
theorem dX1_on_71 : decode cX1_on 71 = .ok (.ireturn, 1) := by decide +kernel
theorem dX1_voice_0 : decode cX1_voice 0 = .ok (.iload_n 0, 1) := by decide +kernel
theorem dX1_voice_1 : decode cX1_voice 1 = .ok (.iconst 1, 1) := by decide +kernel
theorem dX1_voice_2 : decode cX1_voice 2 = .ok (.if_icmp .ne 7, 3) := by decide +kernel
theorem dX1_voice_5 : decode cX1_voice 5 = .ok (.iconst 1, 1) := by decide +kernel
theorem dX1_voice_6 : decode cX1_voice 6 = .ok (.goto 4, 3) := by decide +kernel
theorem dX1_voice_9 : decode cX1_voice 9 = .ok (.iconst 0, 1) := by decide +kernel
theorem dX1_voice_10 : decode cX1_voice 10 = .ok (.ireturn, 1) := by decide +kernel
theorem dX2_init_0 : decode cX2_init 0 = .ok (.aload_n 0, 1) := by decide +kernel
theorem dX2_init_1 : decode cX2_init 1 = .ok (.invokespecial 3, 3) := by decide +kernel
theorem dX2_init_4 : decode cX2_init 4 = .ok (.aload_n 0, 1) := by decide +kernel
theorem dX2_init_5 : decode cX2_init 5 = .ok (.bipush 40, 2) := by decide +kernel
theorem dX2_init_7 : decode cX2_init 7 = .ok (.newarray .int, 2) := by decide +kernel
theorem dX2_init_9 : decode cX2_init 9 = .ok (.putfield 9, 3) := by decide +kernel
theorem dX2_init_12 : decode cX2_init 12 = .ok (.return_, 1) := by decide +kernel
theorem dX2_isBits_0 : decode cX2_isBits 0 = .ok (.iload_n 0, 1) := by decide +kernel
theorem dX2_isBits_1 : decode cX2_isBits 1 = .ok (.ifCond .eq 21, 3) := by decide +kernel
theorem dX2_isBits_4 : decode cX2_isBits 4 = .ok (.iload_n 0, 1) := by decide +kernel
theorem dX2_isBits_5 : decode cX2_isBits 5 = .ok (.bipush 8, 2) := by decide +kernel
theorem dX2_isBits_7 : decode cX2_isBits 7 = .ok (.if_icmp .eq 15, 3) := by decide +kernel
theorem dX2_isBits_10 : decode cX2_isBits 10 = .ok (.iload_n 0, 1) := by decide +kernel
theorem dX2_isBits_11 : decode cX2_isBits 11 = .ok (.bipush 16, 2) := by decide +kernel
theorem dX2_isBits_13 : decode cX2_isBits 13 = .ok (.if_icmp .eq 9, 3) := by decide +kernel
theorem dX2_isBits_16 : decode cX2_isBits 16 = .ok (.iload_n 0, 1) := by decide +kernel
theorem dX2_isBits_17 : decode cX2_isBits 17 = .ok (.bipush 32, 2) := by decide +kernel
theorem dX2_isBits_19 : decode cX2_isBits 19 = .ok (.if_icmp .ne 7, 3) := by decide +kernel
theorem dX2_isBits_22 : decode cX2_isBits 22 = .ok (.iconst 1, 1) := by decide +kernel
theorem dX2_isBits_23 : decode cX2_isBits 23 = .ok (.goto 4, 3) := by decide +kernel
theorem dX2_isBits_26 : decode cX2_isBits 26 = .ok (.iconst 0, 1) := by decide +kernel
theorem dX2_isBits_27 : decode cX2_isBits 27 = .ok (.ireturn, 1) := by decide +kernel
theorem dX2_begin_0 : decode cX2_begin 0 = .ok (.aload_n 0, 1) := by decide +kernel
theorem dX2_begin_1 : decode cX2_begin 1 = .ok (.iload_n 1, 1) := by decide +kernel
theorem dX2_begin_2 : decode cX2_begin 2 = .ok (.putfield 15, 3) := by decide +kernel
theorem dX2_begin_5 : decode cX2_begin 5 = .ok (.aload_n 0, 1) := by decide +kernel
theorem dX2_begin_6 : decode cX2_begin 6 = .ok (.iload_n 1, 1) := by decide +kernel
theorem dX2_begin_7 : decode cX2_begin 7 = .ok (.ifCond .ne 7, 3) := by decide +kernel
theorem dX2_begin_10 : decode cX2_begin 10 = .ok (.iconst 0, 1) := by decide +kernel
theorem dX2_begin_11 : decode cX2_begin 11 = .ok (.goto 16, 3) := by decide +kernel
theorem dX2_begin_14 : decode cX2_begin 14 = .ok (.iconst 0, 1) := by decide +kernel
theorem dX2_begin_15 : decode cX2_begin 15 = .ok (.iload_n 2, 1) := by decide +kernel
theorem dX2_begin_16 : decode cX2_begin 16 = .ok (.aload_n 0, 1) := by decide +kernel
theorem dX2_begin_17 : decode cX2_begin 17 = .ok (.getfield 9, 3) := by decide +kernel
theorem dX2_begin_20 : decode cX2_begin 20 = .ok (.arraylength, 1) := by decide +kernel
theorem dX2_begin_21 : decode cX2_begin 21 = .ok (.invokestatic 19, 3) := by decide +kernel
theorem dX2_begin_24 : decode cX2_begin 24 = .ok (.invokestatic 25, 3) := by decide +kernel
theorem dX2_begin_27 : decode cX2_begin 27 = .ok (.putfield 28, 3) := by decide +kernel
theorem dX2_begin_30 : decode cX2_begin 30 = .ok (.iconst 0, 1) := by decide +kernel
theorem dX2_begin_31 : decode cX2_begin 31 = .ok (.istore_n 3, 1) := by decide +kernel
theorem dX2_begin_32 : decode cX2_begin 32 = .ok (.iload_n 3, 1) := by decide +kernel
theorem dX2_begin_33 : decode cX2_begin 33 = .ok (.aload_n 0, 1) := by decide +kernel
theorem dX2_begin_34 : decode cX2_begin 34 = .ok (.getfield 9, 3) := by decide +kernel
theorem dX2_begin_37 : decode cX2_begin 37 = .ok (.arraylength, 1) := by decide +kernel
theorem dX2_begin_38 : decode cX2_begin 38 = .ok (.if_icmp .ge 16, 3) := by decide +kernel
theorem dX2_begin_41 : decode cX2_begin 41 = .ok (.aload_n 0, 1) := by decide +kernel
theorem dX2_begin_42 : decode cX2_begin 42 = .ok (.getfield 9, 3) := by decide +kernel
theorem dX2_begin_45 : decode cX2_begin 45 = .ok (.iload_n 3, 1) := by decide +kernel
theorem dX2_begin_46 : decode cX2_begin 46 = .ok (.iconst 0, 1) := by decide +kernel
theorem dX2_begin_47 : decode cX2_begin 47 = .ok (.iastore, 1) := by decide +kernel
theorem dX2_begin_48 : decode cX2_begin 48 = .ok (.iinc 3 1, 3) := by decide +kernel
theorem dX2_begin_51 : decode cX2_begin 51 = .ok (.goto (-19), 3) := by decide +kernel
theorem dX2_begin_54 : decode cX2_begin 54 = .ok (.return_, 1) := by decide +kernel
theorem dX2_isMissing_0 : decode cX2_isMissing 0 = .ok (.aload_n 0, 1) := by decide +kernel
theorem dX2_isMissing_1 : decode cX2_isMissing 1 = .ok (.getfield 15, 3) := by decide +kernel
theorem dX2_isMissing_4 : decode cX2_isMissing 4 = .ok (.ifCond .ne 7, 3) := by decide +kernel
theorem dX2_isMissing_7 : decode cX2_isMissing 7 = .ok (.iconst 1, 1) := by decide +kernel
theorem dX2_isMissing_8 : decode cX2_isMissing 8 = .ok (.goto 4, 3) := by decide +kernel
theorem dX2_isMissing_11 : decode cX2_isMissing 11 = .ok (.iconst 0, 1) := by decide +kernel
theorem dX2_isMissing_12 : decode cX2_isMissing 12 = .ok (.ireturn, 1) := by decide +kernel
theorem dX2_isPlace_0 : decode cX2_isPlace 0 = .ok (.iload_n 1, 1) := by decide +kernel
theorem dX2_isPlace_1 : decode cX2_isPlace 1 = .ok (.ifCond .lt 15, 3) := by decide +kernel
theorem dX2_isPlace_4 : decode cX2_isPlace 4 = .ok (.iload_n 1, 1) := by decide +kernel
theorem dX2_isPlace_5 : decode cX2_isPlace 5 = .ok (.aload_n 0, 1) := by decide +kernel
theorem dX2_isPlace_6 : decode cX2_isPlace 6 = .ok (.getfield 28, 3) := by decide +kernel
theorem dX2_isPlace_9 : decode cX2_isPlace 9 = .ok (.if_icmp .ge 7, 3) := by decide +kernel
theorem dX2_isPlace_12 : decode cX2_isPlace 12 = .ok (.iconst 1, 1) := by decide +kernel
theorem dX2_isPlace_13 : decode cX2_isPlace 13 = .ok (.goto 4, 3) := by decide +kernel
theorem dX2_isPlace_16 : decode cX2_isPlace 16 = .ok (.iconst 0, 1) := by decide +kernel
theorem dX2_isPlace_17 : decode cX2_isPlace 17 = .ok (.ireturn, 1) := by decide +kernel
theorem dX2_isStretch_0 : decode cX2_isStretch 0 = .ok (.iload_n 1, 1) := by decide +kernel
theorem dX2_isStretch_1 : decode cX2_isStretch 1 = .ok (.ifCond .lt 29, 3) := by decide +kernel
theorem dX2_isStretch_4 : decode cX2_isStretch 4 = .ok (.iload_n 2, 1) := by decide +kernel
theorem dX2_isStretch_5 : decode cX2_isStretch 5 = .ok (.ifCond .lt 25, 3) := by decide +kernel
theorem dX2_isStretch_8 : decode cX2_isStretch 8 = .ok (.iload_n 1, 1) := by decide +kernel
theorem dX2_isStretch_9 : decode cX2_isStretch 9 = .ok (.aload_n 0, 1) := by decide +kernel
theorem dX2_isStretch_10 : decode cX2_isStretch 10 = .ok (.getfield 28, 3) := by decide +kernel
theorem dX2_isStretch_13 : decode cX2_isStretch 13 = .ok (.if_icmp .gt 17, 3) := by decide +kernel
theorem dX2_isStretch_16 : decode cX2_isStretch 16 = .ok (.iload_n 2, 1) := by decide +kernel
theorem dX2_isStretch_17 : decode cX2_isStretch 17 = .ok (.aload_n 0, 1) := by decide +kernel
theorem dX2_isStretch_18 : decode cX2_isStretch 18 = .ok (.getfield 28, 3) := by decide +kernel
theorem dX2_isStretch_21 : decode cX2_isStretch 21 = .ok (.iload_n 1, 1) := by decide +kernel
theorem dX2_isStretch_22 : decode cX2_isStretch 22 = .ok (.isub, 1) := by decide +kernel
theorem dX2_isStretch_23 : decode cX2_isStretch 23 = .ok (.if_icmp .gt 7, 3) := by decide +kernel
theorem dX2_isStretch_26 : decode cX2_isStretch 26 = .ok (.iconst 1, 1) := by decide +kernel
theorem dX2_isStretch_27 : decode cX2_isStretch 27 = .ok (.goto 4, 3) := by decide +kernel
theorem dX2_isStretch_30 : decode cX2_isStretch 30 = .ok (.iconst 0, 1) := by decide +kernel
theorem dX2_isStretch_31 : decode cX2_isStretch 31 = .ok (.ireturn, 1) := by decide +kernel
theorem dX2_number_0 : decode cX2_number 0 = .ok (.aload_n 0, 1) := by decide +kernel
theorem dX2_number_1 : decode cX2_number 1 = .ok (.iload_n 1, 1) := by decide +kernel
theorem dX2_number_2 : decode cX2_number 2 = .ok (.invokevirtual 31, 3) := by decide +kernel
theorem dX2_number_5 : decode cX2_number 5 = .ok (.ifCond .eq 12, 3) := by decide +kernel
theorem dX2_number_8 : decode cX2_number 8 = .ok (.aload_n 0, 1) := by decide +kernel
theorem dX2_number_9 : decode cX2_number 9 = .ok (.getfield 9, 3) := by decide +kernel
theorem dX2_number_12 : decode cX2_number 12 = .ok (.iload_n 1, 1) := by decide +kernel
theorem dX2_number_13 : decode cX2_number 13 = .ok (.iaload, 1) := by decide +kernel
theorem dX2_number_14 : decode cX2_number 14 = .ok (.goto 4, 3) := by decide +kernel
theorem dX2_number_17 : decode cX2_number 17 = .ok (.iconst 0, 1) := by decide +kernel
theorem dX2_number_18 : decode cX2_number 18 = .ok (.ireturn, 1) := by decide +kernel
theorem dX2_put_0 : decode cX2_put 0 = .ok (.aload_n 0, 1) := by decide +kernel
theorem dX2_put_1 : decode cX2_put 1 = .ok (.iload_n 1, 1) := by decide +kernel
theorem dX2_put_2 : decode cX2_put 2 = .ok (.invokevirtual 31, 3) := by decide +kernel
theorem dX2_put_5 : decode cX2_put 5 = .ok (.ifCond .ne 4, 3) := by decide +kernel
theorem dX2_put_8 : decode cX2_put 8 = .ok (.return_, 1) := by decide +kernel
theorem dX2_put_9 : decode cX2_put 9 = .ok (.aload_n 0, 1) := by decide +kernel
theorem dX2_put_10 : decode cX2_put 10 = .ok (.getfield 15, 3) := by decide +kernel
theorem dX2_put_13 : decode cX2_put 13 = .ok (.bipush 8, 2) := by decide +kernel
theorem dX2_put_15 : decode cX2_put 15 = .ok (.if_icmp .ne 14, 3) := by decide +kernel
theorem dX2_put_18 : decode cX2_put 18 = .ok (.aload_n 0, 1) := by decide +kernel
theorem dX2_put_19 : decode cX2_put 19 = .ok (.getfield 9, 3) := by decide +kernel
theorem dX2_put_22 : decode cX2_put 22 = .ok (.iload_n 1, 1) := by decide +kernel
theorem dX2_put_23 : decode cX2_put 23 = .ok (.iload_n 2, 1) := by decide +kernel
theorem dX2_put_24 : decode cX2_put 24 = .ok (.i2b, 1) := by decide +kernel
theorem dX2_put_25 : decode cX2_put 25 = .ok (.iastore, 1) := by decide +kernel
theorem dX2_put_26 : decode cX2_put 26 = .ok (.goto 30, 3) := by decide +kernel
theorem dX2_put_29 : decode cX2_put 29 = .ok (.aload_n 0, 1) := by decide +kernel
theorem dX2_put_30 : decode cX2_put 30 = .ok (.getfield 15, 3) := by decide +kernel
theorem dX2_put_33 : decode cX2_put 33 = .ok (.bipush 16, 2) := by decide +kernel
theorem dX2_put_35 : decode cX2_put 35 = .ok (.if_icmp .ne 14, 3) := by decide +kernel
theorem dX2_put_38 : decode cX2_put 38 = .ok (.aload_n 0, 1) := by decide +kernel
theorem dX2_put_39 : decode cX2_put 39 = .ok (.getfield 9, 3) := by decide +kernel
theorem dX2_put_42 : decode cX2_put 42 = .ok (.iload_n 1, 1) := by decide +kernel
theorem dX2_put_43 : decode cX2_put 43 = .ok (.iload_n 2, 1) := by decide +kernel
theorem dX2_put_44 : decode cX2_put 44 = .ok (.i2s, 1) := by decide +kernel
theorem dX2_put_45 : decode cX2_put 45 = .ok (.iastore, 1) := by decide +kernel
theorem dX2_put_46 : decode cX2_put 46 = .ok (.goto 10, 3) := by decide +kernel
theorem dX2_put_49 : decode cX2_put 49 = .ok (.aload_n 0, 1) := by decide +kernel
theorem dX2_put_50 : decode cX2_put 50 = .ok (.getfield 9, 3) := by decide +kernel
theorem dX2_put_53 : decode cX2_put 53 = .ok (.iload_n 1, 1) := by decide +kernel
theorem dX2_put_54 : decode cX2_put 54 = .ok (.iload_n 2, 1) := by decide +kernel
theorem dX2_put_55 : decode cX2_put 55 = .ok (.iastore, 1) := by decide +kernel
theorem dX2_put_56 : decode cX2_put 56 = .ok (.return_, 1) := by decide +kernel
