theorem dX6_puts_33 : decode cX6_puts 33 = .ok (.iaload, 1) := by decide +kernel
theorem dX6_puts_34 : decode cX6_puts 34 = .ok (.iload_n 2, 1) := by decide +kernel
theorem dX6_puts_35 : decode cX6_puts 35 = .ok (.if_icmp .ne 12, 3) := by decide +kernel
theorem dX6_puts_38 : decode cX6_puts 38 = .ok (.aload_n 0, 1) := by decide +kernel
theorem dX6_puts_39 : decode cX6_puts 39 = .ok (.ldc 162, 2) := by decide +kernel
theorem dX6_puts_41 : decode cX6_puts 41 = .ok (.invokevirtual 87, 3) := by decide +kernel
theorem dX6_puts_44 : decode cX6_puts 44 = .ok (.goto 9, 3) := by decide +kernel
theorem dX6_puts_47 : decode cX6_puts 47 = .ok (.aload_n 0, 1) := by decide +kernel
theorem dX6_puts_48 : decode cX6_puts 48 = .ok (.iload_n 1, 1) := by decide +kernel
theorem dX6_puts_49 : decode cX6_puts 49 = .ok (.iload_n 2, 1) := by decide +kernel
theorem dX6_puts_50 : decode cX6_puts 50 = .ok (.invokevirtual 163, 3) := by decide +kernel
theorem dX6_puts_53 : decode cX6_puts 53 = .ok (.ireturn, 1) := by decide +kernel
theorem dX6_hand_0 : decode cX6_hand 0 = .ok (.iload_n 1, 1) := by decide +kernel
theorem dX6_hand_1 : decode cX6_hand 1 = .ok (.invokestatic 159, 3) := by decide +kernel
theorem dX6_hand_4 : decode cX6_hand 4 = .ok (.ifCond .eq 14, 3) := by decide +kernel
theorem dX6_hand_7 : decode cX6_hand 7 = .ok (.aload_n 0, 1) := by decide +kernel
theorem dX6_hand_8 : decode cX6_hand 8 = .ok (.getfield 9, 3) := by decide +kernel
theorem dX6_hand_11 : decode cX6_hand 11 = .ok (.iconst 2, 1) := by decide +kernel
theorem dX6_hand_12 : decode cX6_hand 12 = .ok (.iload_n 1, 1) := by decide +kernel
theorem dX6_hand_13 : decode cX6_hand 13 = .ok (.iadd, 1) := by decide +kernel
theorem dX6_hand_14 : decode cX6_hand 14 = .ok (.iaload, 1) := by decide +kernel
theorem dX6_hand_15 : decode cX6_hand 15 = .ok (.goto 9, 3) := by decide +kernel
theorem dX6_hand_18 : decode cX6_hand 18 = .ok (.aload_n 0, 1) := by decide +kernel
theorem dX6_hand_19 : decode cX6_hand 19 = .ok (.ldc 70, 2) := by decide +kernel
theorem dX6_hand_21 : decode cX6_hand 21 = .ok (.invokevirtual 87, 3) := by decide +kernel
theorem dX6_hand_24 : decode cX6_hand 24 = .ok (.ireturn, 1) := by decide +kernel
theorem dX6_doesSuit_0 : decode cX6_doesSuit 0 = .ok (.aload_n 0, 1) := by decide +kernel
theorem dX6_doesSuit_1 : decode cX6_doesSuit 1 = .ok (.getfield 9, 3) := by decide +kernel
theorem dX6_doesSuit_4 : decode cX6_doesSuit 4 = .ok (.bipush 44, 2) := by decide +kernel
theorem dX6_doesSuit_6 : decode cX6_doesSuit 6 = .ok (.iload_n 3, 1) := by decide +kernel
theorem dX6_doesSuit_7 : decode cX6_doesSuit 7 = .ok (.iadd, 1) := by decide +kernel
theorem dX6_doesSuit_8 : decode cX6_doesSuit 8 = .ok (.iaload, 1) := by decide +kernel
theorem dX6_doesSuit_9 : decode cX6_doesSuit 9 = .ok (.istore 4, 2) := by decide +kernel
theorem dX6_doesSuit_11 : decode cX6_doesSuit 11 = .ok (.iload 4, 2) := by decide +kernel
theorem dX6_doesSuit_13 : decode cX6_doesSuit 13 = .ok (.iload_n 1, 1) := by decide +kernel
theorem dX6_doesSuit_14 : decode cX6_doesSuit 14 = .ok (.ifCond .lt 20, 3) := by decide +kernel
theorem dX6_doesSuit_17 : decode cX6_doesSuit 17 = .ok (.aload_n 0, 1) := by decide +kernel
theorem dX6_doesSuit_18 : decode cX6_doesSuit 18 = .ok (.iload_n 1, 1) := by decide +kernel
theorem dX6_doesSuit_19 : decode cX6_doesSuit 19 = .ok (.invokevirtual 113, 3) := by decide +kernel
theorem dX6_doesSuit_22 : decode cX6_doesSuit 22 = .ok (.iconst 2, 1) := by decide +kernel
theorem dX6_doesSuit_23 : decode cX6_doesSuit 23 = .ok (.if_icmp .eq 11, 3) := by decide +kernel
theorem dX6_doesSuit_26 : decode cX6_doesSuit 26 = .ok (.iconst 1, 1) := by decide +kernel
theorem dX6_doesSuit_27 : decode cX6_doesSuit 27 = .ok (.iload_n 1, 1) := by decide +kernel
theorem dX6_doesSuit_28 : decode cX6_doesSuit 28 = .ok (.ishl, 1) := by decide +kernel
theorem dX6_doesSuit_29 : decode cX6_doesSuit 29 = .ok (.iconst (-1), 1) := by decide +kernel
theorem dX6_doesSuit_30 : decode cX6_doesSuit 30 = .ok (.ixor, 1) := by decide +kernel
theorem dX6_doesSuit_31 : decode cX6_doesSuit 31 = .ok (.goto 4, 3) := by decide +kernel
theorem dX6_doesSuit_34 : decode cX6_doesSuit 34 = .ok (.iconst (-1), 1) := by decide +kernel
theorem dX6_doesSuit_35 : decode cX6_doesSuit 35 = .ok (.iand, 1) := by decide +kernel
theorem dX6_doesSuit_36 : decode cX6_doesSuit 36 = .ok (.istore 4, 2) := by decide +kernel
theorem dX6_doesSuit_38 : decode cX6_doesSuit 38 = .ok (.iload 4, 2) := by decide +kernel
theorem dX6_doesSuit_40 : decode cX6_doesSuit 40 = .ok (.iload_n 2, 1) := by decide +kernel
theorem dX6_doesSuit_41 : decode cX6_doesSuit 41 = .ok (.ifCond .lt 20, 3) := by decide +kernel
theorem dX6_doesSuit_44 : decode cX6_doesSuit 44 = .ok (.aload_n 0, 1) := by decide +kernel
theorem dX6_doesSuit_45 : decode cX6_doesSuit 45 = .ok (.iload_n 2, 1) := by decide +kernel
theorem dX6_doesSuit_46 : decode cX6_doesSuit 46 = .ok (.invokevirtual 113, 3) := by decide +kernel
theorem dX6_doesSuit_49 : decode cX6_doesSuit 49 = .ok (.iconst 1, 1) := by decide +kernel
theorem dX6_doesSuit_50 : decode cX6_doesSuit 50 = .ok (.if_icmp .eq 11, 3) := by decide +kernel
theorem dX6_doesSuit_53 : decode cX6_doesSuit 53 = .ok (.iconst 1, 1) := by decide +kernel
theorem dX6_doesSuit_54 : decode cX6_doesSuit 54 = .ok (.iload_n 2, 1) := by decide +kernel
theorem dX6_doesSuit_55 : decode cX6_doesSuit 55 = .ok (.ishl, 1) := by decide +kernel
theorem dX6_doesSuit_56 : decode cX6_doesSuit 56 = .ok (.iconst (-1), 1) := by decide +kernel
theorem dX6_doesSuit_57 : decode cX6_doesSuit 57 = .ok (.ixor, 1) := by decide +kernel
theorem dX6_doesSuit_58 : decode cX6_doesSuit 58 = .ok (.goto 4, 3) := by decide +kernel
theorem dX6_doesSuit_61 : decode cX6_doesSuit 61 = .ok (.iconst (-1), 1) := by decide +kernel
theorem dX6_doesSuit_62 : decode cX6_doesSuit 62 = .ok (.iand, 1) := by decide +kernel
theorem dX6_doesSuit_63 : decode cX6_doesSuit 63 = .ok (.istore 4, 2) := by decide +kernel
theorem dX6_doesSuit_65 : decode cX6_doesSuit 65 = .ok (.iload 4, 2) := by decide +kernel
theorem dX6_doesSuit_67 : decode cX6_doesSuit 67 = .ok (.ifCond .ne 7, 3) := by decide +kernel
theorem dX6_doesSuit_70 : decode cX6_doesSuit 70 = .ok (.iconst 1, 1) := by decide +kernel
theorem dX6_doesSuit_71 : decode cX6_doesSuit 71 = .ok (.goto 4, 3) := by decide +kernel
theorem dX6_doesSuit_74 : decode cX6_doesSuit 74 = .ok (.iconst 0, 1) := by decide +kernel
theorem dX6_doesSuit_75 : decode cX6_doesSuit 75 = .ok (.ireturn, 1) := by decide +kernel
theorem dX6_suits_0 : decode cX6_suits 0 = .ok (.aload_n 0, 1) := by decide +kernel
theorem dX6_suits_1 : decode cX6_suits 1 = .ok (.iload_n 1, 1) := by decide +kernel
theorem dX6_suits_2 : decode cX6_suits 2 = .ok (.invokevirtual 143, 3) := by decide +kernel
theorem dX6_suits_5 : decode cX6_suits 5 = .ok (.ifCond .ne 12, 3) := by decide +kernel
theorem dX6_suits_8 : decode cX6_suits 8 = .ok (.aload_n 0, 1) := by decide +kernel
theorem dX6_suits_9 : decode cX6_suits 9 = .ok (.ldc 70, 2) := by decide +kernel
theorem dX6_suits_11 : decode cX6_suits 11 = .ok (.invokevirtual 87, 3) := by decide +kernel
theorem dX6_suits_14 : decode cX6_suits 14 = .ok (.goto 28, 3) := by decide +kernel
theorem dX6_suits_17 : decode cX6_suits 17 = .ok (.aload_n 0, 1) := by decide +kernel
theorem dX6_suits_18 : decode cX6_suits 18 = .ok (.aload_n 0, 1) := by decide +kernel
theorem dX6_suits_19 : decode cX6_suits 19 = .ok (.getfield 9, 3) := by decide +kernel
theorem dX6_suits_22 : decode cX6_suits 22 = .ok (.iconst 2, 1) := by decide +kernel
theorem dX6_suits_23 : decode cX6_suits 23 = .ok (.iaload, 1) := by decide +kernel
theorem dX6_suits_24 : decode cX6_suits 24 = .ok (.aload_n 0, 1) := by decide +kernel
theorem dX6_suits_25 : decode cX6_suits 25 = .ok (.getfield 9, 3) := by decide +kernel
theorem dX6_suits_28 : decode cX6_suits 28 = .ok (.iconst 3, 1) := by decide +kernel
theorem dX6_suits_29 : decode cX6_suits 29 = .ok (.iaload, 1) := by decide +kernel
theorem dX6_suits_30 : decode cX6_suits 30 = .ok (.iload_n 1, 1) := by decide +kernel
theorem dX6_suits_31 : decode cX6_suits 31 = .ok (.invokevirtual 166, 3) := by decide +kernel
theorem dX6_suits_34 : decode cX6_suits 34 = .ok (.ifCond .eq 7, 3) := by decide +kernel
theorem dX6_suits_37 : decode cX6_suits 37 = .ok (.iconst 1, 1) := by decide +kernel
theorem dX6_suits_38 : decode cX6_suits 38 = .ok (.goto 4, 3) := by decide +kernel
theorem dX6_suits_41 : decode cX6_suits 41 = .ok (.iconst 0, 1) := by decide +kernel
theorem dX6_suits_42 : decode cX6_suits 42 = .ok (.ireturn, 1) := by decide +kernel
theorem dX6_now_0 : decode cX6_now 0 = .ok (.iload_n 1, 1) := by decide +kernel
theorem dX6_now_1 : decode cX6_now 1 = .ok (.iconst 0, 1) := by decide +kernel
theorem dX6_now_2 : decode cX6_now 2 = .ok (.iconst 4, 1) := by decide +kernel
theorem dX6_now_3 : decode cX6_now 3 = .ok (.invokestatic 75, 3) := by decide +kernel
theorem dX6_now_6 : decode cX6_now 6 = .ok (.ifCond .eq 14, 3) := by decide +kernel
theorem dX6_now_9 : decode cX6_now 9 = .ok (.aload_n 0, 1) := by decide +kernel
theorem dX6_now_10 : decode cX6_now 10 = .ok (.getfield 9, 3) := by decide +kernel
theorem dX6_now_13 : decode cX6_now 13 = .ok (.iconst 4, 1) := by decide +kernel
theorem dX6_now_14 : decode cX6_now 14 = .ok (.iload_n 1, 1) := by decide +kernel
theorem dX6_now_15 : decode cX6_now 15 = .ok (.iadd, 1) := by decide +kernel
theorem dX6_now_16 : decode cX6_now 16 = .ok (.iaload, 1) := by decide +kernel
theorem dX6_now_17 : decode cX6_now 17 = .ok (.goto 9, 3) := by decide +kernel
theorem dX6_now_20 : decode cX6_now 20 = .ok (.aload_n 0, 1) := by decide +kernel
theorem dX6_now_21 : decode cX6_now 21 = .ok (.ldc 70, 2) := by decide +kernel
theorem dX6_now_23 : decode cX6_now 23 = .ok (.invokevirtual 87, 3) := by decide +kernel
theorem dX6_now_26 : decode cX6_now 26 = .ok (.ireturn, 1) := by decide +kernel
theorem dX6_leftOf_0 : decode cX6_leftOf 0 = .ok (.iload_n 0, 1) := by decide +kernel
theorem dX6_leftOf_1 : decode cX6_leftOf 1 = .ok (.bipush 9, 2) := by decide +kernel
theorem dX6_leftOf_3 : decode cX6_leftOf 3 = .ok (.idiv, 1) := by decide +kernel
theorem dX6_leftOf_4 : decode cX6_leftOf 4 = .ok (.iconst 1, 1) := by decide +kernel
theorem dX6_leftOf_5 : decode cX6_leftOf 5 = .ok (.isub, 1) := by decide +kernel
theorem dX6_leftOf_6 : decode cX6_leftOf 6 = .ok (.ireturn, 1) := by decide +kernel
theorem dX6_rightOf_0 : decode cX6_rightOf 0 = .ok (.iload_n 0, 1) := by decide +kernel
theorem dX6_rightOf_1 : decode cX6_rightOf 1 = .ok (.bipush 9, 2) := by decide +kernel
theorem dX6_rightOf_3 : decode cX6_rightOf 3 = .ok (.irem, 1) := by decide +kernel
theorem dX6_rightOf_4 : decode cX6_rightOf 4 = .ok (.iconst 1, 1) := by decide +kernel
theorem dX6_rightOf_5 : decode cX6_rightOf 5 = .ok (.isub, 1) := by decide +kernel
theorem dX6_rightOf_6 : decode cX6_rightOf 6 = .ok (.ireturn, 1) := by decide +kernel
theorem dX6_isHold_0 : decode cX6_isHold 0 = .ok (.aload_n 0, 1) := by decide +kernel
theorem dX6_isHold_1 : decode cX6_isHold 1 = .ok (.iload_n 1, 1) := by decide +kernel
theorem dX6_isHold_2 : decode cX6_isHold 2 = .ok (.invokevirtual 131, 3) := by decide +kernel
theorem dX6_isHold_5 : decode cX6_isHold 5 = .ok (.ifCond .eq 24, 3) := by decide +kernel
theorem dX6_isHold_8 : decode cX6_isHold 8 = .ok (.aload_n 0, 1) := by decide +kernel
theorem dX6_isHold_9 : decode cX6_isHold 9 = .ok (.iload_n 2, 1) := by decide +kernel
theorem dX6_isHold_10 : decode cX6_isHold 10 = .ok (.invokevirtual 131, 3) := by decide +kernel
theorem dX6_isHold_13 : decode cX6_isHold 13 = .ok (.ifCond .eq 16, 3) := by decide +kernel
theorem dX6_isHold_16 : decode cX6_isHold 16 = .ok (.iload_n 1, 1) := by decide +kernel
theorem dX6_isHold_17 : decode cX6_isHold 17 = .ok (.iload_n 2, 1) := by decide +kernel
theorem dX6_isHold_18 : decode cX6_isHold 18 = .ok (.if_icmp .ne 7, 3) := by decide +kernel
theorem dX6_isHold_21 : decode cX6_isHold 21 = .ok (.iload_n 1, 1) := by decide +kernel
theorem dX6_isHold_22 : decode cX6_isHold 22 = .ok (.ifCond .ge 7, 3) := by decide +kernel
theorem dX6_isHold_25 : decode cX6_isHold 25 = .ok (.iconst 1, 1) := by decide +kernel
theorem dX6_isHold_26 : decode cX6_isHold 26 = .ok (.goto 4, 3) := by decide +kernel
theorem dX6_isHold_29 : decode cX6_isHold 29 = .ok (.iconst 0, 1) := by decide +kernel
theorem dX6_isHold_30 : decode cX6_isHold 30 = .ok (.ireturn, 1) := by decide +kernel
theorem dX6_worthBetween_0 : decode cX6_worthBetween 0 = .ok (.iload_n 3, 1) := by decide +kernel
theorem dX6_worthBetween_1 : decode cX6_worthBetween 1 = .ok (.ifCond .ne 37, 3) := by decide +kernel
theorem dX6_worthBetween_4 : decode cX6_worthBetween 4 = .ok (.iload_n 1, 1) := by decide +kernel
theorem dX6_worthBetween_5 : decode cX6_worthBetween 5 = .ok (.invokestatic 169, 3) := by decide +kernel
theorem dX6_worthBetween_8 : decode cX6_worthBetween 8 = .ok (.iload_n 2, 1) := by decide +kernel
theorem dX6_worthBetween_9 : decode cX6_worthBetween 9 = .ok (.invokestatic 169, 3) := by decide +kernel
theorem dX6_worthBetween_12 : decode cX6_worthBetween 12 = .ok (.if_icmp .ne 7, 3) := by decide +kernel
theorem dX6_worthBetween_15 : decode cX6_worthBetween 15 = .ok (.iconst 0, 1) := by decide +kernel
theorem dX6_worthBetween_16 : decode cX6_worthBetween 16 = .ok (.goto 4, 3) := by decide +kernel
theorem dX6_worthBetween_19 : decode cX6_worthBetween 19 = .ok (.iconst 1, 1) := by decide +kernel
theorem dX6_worthBetween_20 : decode cX6_worthBetween 20 = .ok (.iload_n 1, 1) := by decide +kernel
theorem dX6_worthBetween_21 : decode cX6_worthBetween 21 = .ok (.invokestatic 172, 3) := by decide +kernel
theorem dX6_worthBetween_24 : decode cX6_worthBetween 24 = .ok (.iload_n 2, 1) := by decide +kernel
theorem dX6_worthBetween_25 : decode cX6_worthBetween 25 = .ok (.invokestatic 172, 3) := by decide +kernel
theorem dX6_worthBetween_28 : decode cX6_worthBetween 28 = .ok (.if_icmp .ne 7, 3) := by decide +kernel
theorem dX6_worthBetween_31 : decode cX6_worthBetween 31 = .ok (.iconst 0, 1) := by decide +kernel
theorem dX6_worthBetween_32 : decode cX6_worthBetween 32 = .ok (.goto 4, 3) := by decide +kernel
theorem dX6_worthBetween_35 : decode cX6_worthBetween 35 = .ok (.iconst 1, 1) := by decide +kernel
theorem dX6_worthBetween_36 : decode cX6_worthBetween 36 = .ok (.iadd, 1) := by decide +kernel
theorem dX6_worthBetween_37 : decode cX6_worthBetween 37 = .ok (.ireturn, 1) := by decide +kernel
theorem dX6_worthBetween_38 : decode cX6_worthBetween 38 = .ok (.aload_n 0, 1) := by decide +kernel
theorem dX6_worthBetween_39 : decode cX6_worthBetween 39 = .ok (.iload_n 1, 1) := by decide +kernel
theorem dX6_worthBetween_40 : decode cX6_worthBetween 40 = .ok (.invokestatic 169, 3) := by decide +kernel
theorem dX6_worthBetween_43 : decode cX6_worthBetween 43 = .ok (.iload_n 2, 1) := by decide +kernel
theorem dX6_worthBetween_44 : decode cX6_worthBetween 44 = .ok (.invokestatic 169, 3) := by decide +kernel
theorem dX6_worthBetween_47 : decode cX6_worthBetween 47 = .ok (.invokevirtual 156, 3) := by decide +kernel
theorem dX6_worthBetween_50 : decode cX6_worthBetween 50 = .ok (.aload_n 0, 1) := by decide +kernel
theorem dX6_worthBetween_51 : decode cX6_worthBetween 51 = .ok (.iload_n 1, 1) := by decide +kernel
theorem dX6_worthBetween_52 : decode cX6_worthBetween 52 = .ok (.invokestatic 172, 3) := by decide +kernel
theorem dX6_worthBetween_55 : decode cX6_worthBetween 55 = .ok (.iload_n 2, 1) := by decide +kernel
theorem dX6_worthBetween_56 : decode cX6_worthBetween 56 = .ok (.invokestatic 172, 3) := by decide +kernel
theorem dX6_worthBetween_59 : decode cX6_worthBetween 59 = .ok (.invokevirtual 156, 3) := by decide +kernel
theorem dX6_worthBetween_62 : decode cX6_worthBetween 62 = .ok (.iadd, 1) := by decide +kernel
theorem dX6_worthBetween_63 : decode cX6_worthBetween 63 = .ok (.ireturn, 1) := by decide +kernel
theorem dX6_holdNow_0 : decode cX6_holdNow 0 = .ok (.bipush 9, 2) := by decide +kernel
theorem dX6_holdNow_2 : decode cX6_holdNow 2 = .ok (.aload_n 0, 1) := by decide +kernel
theorem dX6_holdNow_3 : decode cX6_holdNow 3 = .ok (.getfield 9, 3) := by decide +kernel
theorem dX6_holdNow_6 : decode cX6_holdNow 6 = .ok (.iconst 2, 1) := by decide +kernel
theorem dX6_holdNow_7 : decode cX6_holdNow 7 = .ok (.iaload, 1) := by decide +kernel
theorem dX6_holdNow_8 : decode cX6_holdNow 8 = .ok (.iconst 1, 1) := by decide +kernel
theorem dX6_holdNow_9 : decode cX6_holdNow 9 = .ok (.iadd, 1) := by decide +kernel
theorem dX6_holdNow_10 : decode cX6_holdNow 10 = .ok (.imul, 1) := by decide +kernel
theorem dX6_holdNow_11 : decode cX6_holdNow 11 = .ok (.aload_n 0, 1) := by decide +kernel
theorem dX6_holdNow_12 : decode cX6_holdNow 12 = .ok (.getfield 9, 3) := by decide +kernel
theorem dX6_holdNow_15 : decode cX6_holdNow 15 = .ok (.iconst 3, 1) := by decide +kernel
theorem dX6_holdNow_16 : decode cX6_holdNow 16 = .ok (.iaload, 1) := by decide +kernel
theorem dX6_holdNow_17 : decode cX6_holdNow 17 = .ok (.iadd, 1) := by decide +kernel
theorem dX6_holdNow_18 : decode cX6_holdNow 18 = .ok (.iconst 1, 1) := by decide +kernel
theorem dX6_holdNow_19 : decode cX6_holdNow 19 = .ok (.iadd, 1) := by decide +kernel
theorem dX6_holdNow_20 : decode cX6_holdNow 20 = .ok (.ireturn, 1) := by decide +kernel
theorem dX6_findWay_0 : decode cX6_findWay 0 = .ok (.iconst 0, 1) := by decide +kernel
theorem dX6_findWay_1 : decode cX6_findWay 1 = .ok (.istore_n 3, 1) := by decide +kernel
theorem dX6_findWay_2 : decode cX6_findWay 2 = .ok (.iload_n 3, 1) := by decide +kernel
theorem dX6_findWay_3 : decode cX6_findWay 3 = .ok (.bipush 81, 2) := by decide +kernel
theorem dX6_findWay_5 : decode cX6_findWay 5 = .ok (.if_icmp .ge 20, 3) := by decide +kernel
theorem dX6_findWay_8 : decode cX6_findWay 8 = .ok (.aload_n 0, 1) := by decide +kernel
theorem dX6_findWay_9 : decode cX6_findWay 9 = .ok (.getfield 22, 3) := by decide +kernel
theorem dX6_findWay_12 : decode cX6_findWay 12 = .ok (.sipush 972, 3) := by decide +kernel
theorem dX6_findWay_15 : decode cX6_findWay 15 = .ok (.iload_n 3, 1) := by decide +kernel
theorem dX6_findWay_16 : decode cX6_findWay 16 = .ok (.iadd, 1) := by decide +kernel
theorem dX6_findWay_17 : decode cX6_findWay 17 = .ok (.iconst 0, 1) := by decide +kernel
theorem dX6_findWay_18 : decode cX6_findWay 18 = .ok (.iastore, 1) := by decide +kernel
theorem dX6_findWay_19 : decode cX6_findWay 19 = .ok (.iinc 3 1, 3) := by decide +kernel
theorem dX6_findWay_22 : decode cX6_findWay 22 = .ok (.goto (-20), 3) := by decide +kernel
theorem dX6_findWay_25 : decode cX6_findWay 25 = .ok (.bipush 11, 2) := by decide +kernel
theorem dX6_findWay_27 : decode cX6_findWay 27 = .ok (.istore_n 3, 1) := by decide +kernel
theorem dX6_findWay_28 : decode cX6_findWay 28 = .ok (.iload_n 3, 1) := by decide +kernel
theorem dX6_findWay_29 : decode cX6_findWay 29 = .ok (.ifCond .lt 236, 3) := by decide +kernel
theorem dX6_findWay_32 : decode cX6_findWay 32 = .ok (.iconst 0, 1) := by decide +kernel
theorem dX6_findWay_33 : decode cX6_findWay 33 = .ok (.istore 4, 2) := by decide +kernel
theorem dX6_findWay_35 : decode cX6_findWay 35 = .ok (.iload 4, 2) := by decide +kernel
theorem dX6_findWay_37 : decode cX6_findWay 37 = .ok (.bipush 81, 2) := by decide +kernel
theorem dX6_findWay_39 : decode cX6_findWay 39 = .ok (.if_icmp .ge 69, 3) := by decide +kernel
theorem dX6_findWay_42 : decode cX6_findWay 42 = .ok (.aload_n 0, 1) := by decide +kernel
theorem dX6_findWay_43 : decode cX6_findWay 43 = .ok (.getfield 25, 3) := by decide +kernel
theorem dX6_findWay_46 : decode cX6_findWay 46 = .ok (.iload_n 3, 1) := by decide +kernel
theorem dX6_findWay_47 : decode cX6_findWay 47 = .ok (.bipush 81, 2) := by decide +kernel
theorem dX6_findWay_49 : decode cX6_findWay 49 = .ok (.imul, 1) := by decide +kernel
theorem dX6_findWay_50 : decode cX6_findWay 50 = .ok (.iload 4, 2) := by decide +kernel
theorem dX6_findWay_52 : decode cX6_findWay 52 = .ok (.iadd, 1) := by decide +kernel
theorem dX6_findWay_53 : decode cX6_findWay 53 = .ok (.iload_n 1, 1) := by decide +kernel
theorem dX6_findWay_54 : decode cX6_findWay 54 = .ok (.iload_n 3, 1) := by decide +kernel
theorem dX6_findWay_55 : decode cX6_findWay 55 = .ok (.invokestatic 137, 3) := by decide +kernel
theorem dX6_findWay_58 : decode cX6_findWay 58 = .ok (.ifCond .eq 42, 3) := by decide +kernel
theorem dX6_findWay_61 : decode cX6_findWay 61 = .ok (.aload_n 0, 1) := by decide +kernel
theorem dX6_findWay_62 : decode cX6_findWay 62 = .ok (.iload 4, 2) := by decide +kernel
theorem dX6_findWay_64 : decode cX6_findWay 64 = .ok (.invokestatic 169, 3) := by decide +kernel
theorem dX6_findWay_67 : decode cX6_findWay 67 = .ok (.iload 4, 2) := by decide +kernel
theorem dX6_findWay_69 : decode cX6_findWay 69 = .ok (.invokestatic 172, 3) := by decide +kernel
theorem dX6_findWay_72 : decode cX6_findWay 72 = .ok (.invokevirtual 175, 3) := by decide +kernel
theorem dX6_findWay_75 : decode cX6_findWay 75 = .ok (.ifCond .eq 25, 3) := by decide +kernel
theorem dX6_findWay_78 : decode cX6_findWay 78 = .ok (.aload_n 0, 1) := by decide +kernel
theorem dX6_findWay_79 : decode cX6_findWay 79 = .ok (.iload 4, 2) := by decide +kernel
theorem dX6_findWay_81 : decode cX6_findWay 81 = .ok (.invokestatic 169, 3) := by decide +kernel
theorem dX6_findWay_84 : decode cX6_findWay 84 = .ok (.iload 4, 2) := by decide +kernel
theorem dX6_findWay_86 : decode cX6_findWay 86 = .ok (.invokestatic 172, 3) := by decide +kernel
theorem dX6_findWay_89 : decode cX6_findWay 89 = .ok (.iload_n 3, 1) := by decide +kernel
theorem dX6_findWay_90 : decode cX6_findWay 90 = .ok (.invokevirtual 166, 3) := by decide +kernel
theorem dX6_findWay_93 : decode cX6_findWay 93 = .ok (.ifCond .eq 7, 3) := by decide +kernel
theorem dX6_findWay_96 : decode cX6_findWay 96 = .ok (.iconst 1, 1) := by decide +kernel
theorem dX6_findWay_97 : decode cX6_findWay 97 = .ok (.goto 4, 3) := by decide +kernel
theorem dX6_findWay_100 : decode cX6_findWay 100 = .ok (.iconst 0, 1) := by decide +kernel
theorem dX6_findWay_101 : decode cX6_findWay 101 = .ok (.bastore, 1) := by decide +kernel
theorem dX6_findWay_102 : decode cX6_findWay 102 = .ok (.iinc 4 1, 3) := by decide +kernel
theorem dX6_findWay_105 : decode cX6_findWay 105 = .ok (.goto (-70), 3) := by decide +kernel
theorem dX6_findWay_108 : decode cX6_findWay 108 = .ok (.iconst 0, 1) := by decide +kernel
theorem dX6_findWay_109 : decode cX6_findWay 109 = .ok (.istore 4, 2) := by decide +kernel
theorem dX6_findWay_111 : decode cX6_findWay 111 = .ok (.iload 4, 2) := by decide +kernel
theorem dX6_findWay_113 : decode cX6_findWay 113 = .ok (.bipush 81, 2) := by decide +kernel
theorem dX6_findWay_115 : decode cX6_findWay 115 = .ok (.if_icmp .ge 144, 3) := by decide +kernel
theorem dX6_findWay_118 : decode cX6_findWay 118 = .ok (.iload_n 1, 1) := by decide +kernel
theorem dX6_findWay_119 : decode cX6_findWay 119 = .ok (.iload_n 3, 1) := by decide +kernel
theorem dX6_findWay_120 : decode cX6_findWay 120 = .ok (.invokestatic 137, 3) := by decide +kernel
theorem dX6_findWay_123 : decode cX6_findWay 123 = .ok (.ifCond .eq 8, 3) := by decide +kernel
theorem dX6_findWay_126 : decode cX6_findWay 126 = .ok (.ldc 178, 2) := by decide +kernel
theorem dX6_findWay_128 : decode cX6_findWay 128 = .ok (.goto 17, 3) := by decide +kernel
theorem dX6_findWay_131 : decode cX6_findWay 131 = .ok (.aload_n 0, 1) := by decide +kernel
theorem dX6_findWay_132 : decode cX6_findWay 132 = .ok (.getfield 22, 3) := by decide +kernel
theorem dX6_findWay_135 : decode cX6_findWay 135 = .ok (.iload_n 3, 1) := by decide +kernel
theorem dX6_findWay_136 : decode cX6_findWay 136 = .ok (.iconst 1, 1) := by decide +kernel
theorem dX6_findWay_137 : decode cX6_findWay 137 = .ok (.iadd, 1) := by decide +kernel
theorem dX6_findWay_138 : decode cX6_findWay 138 = .ok (.bipush 81, 2) := by decide +kernel
theorem dX6_findWay_140 : decode cX6_findWay 140 = .ok (.imul, 1) := by decide +kernel
theorem dX6_findWay_141 : decode cX6_findWay 141 = .ok (.iload 4, 2) := by decide +kernel
theorem dX6_findWay_143 : decode cX6_findWay 143 = .ok (.iadd, 1) := by decide +kernel
theorem dX6_findWay_144 : decode cX6_findWay 144 = .ok (.iaload, 1) := by decide +kernel
theorem dX6_findWay_145 : decode cX6_findWay 145 = .ok (.istore 5, 2) := by decide +kernel
theorem dX6_findWay_147 : decode cX6_findWay 147 = .ok (.iconst 0, 1) := by decide +kernel
theorem dX6_findWay_148 : decode cX6_findWay 148 = .ok (.istore 6, 2) := by decide +kernel
theorem dX6_findWay_150 : decode cX6_findWay 150 = .ok (.iload 6, 2) := by decide +kernel
theorem dX6_findWay_152 : decode cX6_findWay 152 = .ok (.bipush 81, 2) := by decide +kernel
theorem dX6_findWay_154 : decode cX6_findWay 154 = .ok (.if_icmp .ge 85, 3) := by decide +kernel
theorem dX6_findWay_157 : decode cX6_findWay 157 = .ok (.iload_n 1, 1) := by decide +kernel
theorem dX6_findWay_158 : decode cX6_findWay 158 = .ok (.iload_n 3, 1) := by decide +kernel
theorem dX6_findWay_159 : decode cX6_findWay 159 = .ok (.invokestatic 137, 3) := by decide +kernel
theorem dX6_findWay_162 : decode cX6_findWay 162 = .ok (.ifCond .eq 77, 3) := by decide +kernel
theorem dX6_findWay_165 : decode cX6_findWay 165 = .ok (.aload_n 0, 1) := by decide +kernel
theorem dX6_findWay_166 : decode cX6_findWay 166 = .ok (.iload 4, 2) := by decide +kernel
theorem dX6_findWay_168 : decode cX6_findWay 168 = .ok (.invokestatic 169, 3) := by decide +kernel
theorem dX6_findWay_171 : decode cX6_findWay 171 = .ok (.iload 4, 2) := by decide +kernel
theorem dX6_findWay_173 : decode cX6_findWay 173 = .ok (.invokestatic 172, 3) := by decide +kernel
theorem dX6_findWay_176 : decode cX6_findWay 176 = .ok (.invokevirtual 175, 3) := by decide +kernel
theorem dX6_findWay_179 : decode cX6_findWay 179 = .ok (.ifCond .eq 60, 3) := by decide +kernel
theorem dX6_findWay_182 : decode cX6_findWay 182 = .ok (.aload_n 0, 1) := by decide +kernel
theorem dX6_findWay_183 : decode cX6_findWay 183 = .ok (.getfield 25, 3) := by decide +kernel
theorem dX6_findWay_186 : decode cX6_findWay 186 = .ok (.iload_n 3, 1) := by decide +kernel
theorem dX6_findWay_187 : decode cX6_findWay 187 = .ok (.bipush 81, 2) := by decide +kernel
theorem dX6_findWay_189 : decode cX6_findWay 189 = .ok (.imul, 1) := by decide +kernel
theorem dX6_findWay_190 : decode cX6_findWay 190 = .ok (.iload 6, 2) := by decide +kernel
theorem dX6_findWay_192 : decode cX6_findWay 192 = .ok (.iadd, 1) := by decide +kernel
theorem dX6_findWay_193 : decode cX6_findWay 193 = .ok (.baload, 1) := by decide +kernel
theorem dX6_findWay_194 : decode cX6_findWay 194 = .ok (.ifCond .eq 35, 3) := by decide +kernel
theorem dX6_findWay_197 : decode cX6_findWay 197 = .ok (.iload 5, 2) := by decide +kernel
theorem dX6_findWay_199 : decode cX6_findWay 199 = .ok (.aload_n 0, 1) := by decide +kernel
theorem dX6_findWay_200 : decode cX6_findWay 200 = .ok (.iload 4, 2) := by decide +kernel
theorem dX6_findWay_202 : decode cX6_findWay 202 = .ok (.iload 6, 2) := by decide +kernel
theorem dX6_findWay_204 : decode cX6_findWay 204 = .ok (.iload_n 2, 1) := by decide +kernel
theorem dX6_findWay_205 : decode cX6_findWay 205 = .ok (.invokevirtual 179, 3) := by decide +kernel
theorem dX6_findWay_208 : decode cX6_findWay 208 = .ok (.aload_n 0, 1) := by decide +kernel
theorem dX6_findWay_209 : decode cX6_findWay 209 = .ok (.getfield 22, 3) := by decide +kernel
theorem dX6_findWay_212 : decode cX6_findWay 212 = .ok (.iload_n 3, 1) := by decide +kernel
theorem dX6_findWay_213 : decode cX6_findWay 213 = .ok (.iconst 1, 1) := by decide +kernel
theorem dX6_findWay_214 : decode cX6_findWay 214 = .ok (.iadd, 1) := by decide +kernel
theorem dX6_findWay_215 : decode cX6_findWay 215 = .ok (.bipush 81, 2) := by decide +kernel
theorem dX6_findWay_217 : decode cX6_findWay 217 = .ok (.imul, 1) := by decide +kernel
theorem dX6_findWay_218 : decode cX6_findWay 218 = .ok (.iload 6, 2) := by decide +kernel
theorem dX6_findWay_220 : decode cX6_findWay 220 = .ok (.iadd, 1) := by decide +kernel
theorem dX6_findWay_221 : decode cX6_findWay 221 = .ok (.iaload, 1) := by decide +kernel
theorem dX6_findWay_222 : decode cX6_findWay 222 = .ok (.iadd, 1) := by decide +kernel
theorem dX6_findWay_223 : decode cX6_findWay 223 = .ok (.invokestatic 183, 3) := by decide +kernel
theorem dX6_findWay_226 : decode cX6_findWay 226 = .ok (.goto 5, 3) := by decide +kernel
theorem dX6_findWay_229 : decode cX6_findWay 229 = .ok (.iload 5, 2) := by decide +kernel
theorem dX6_findWay_231 : decode cX6_findWay 231 = .ok (.istore 5, 2) := by decide +kernel
theorem dX6_findWay_233 : decode cX6_findWay 233 = .ok (.iinc 6 1, 3) := by decide +kernel
theorem dX6_findWay_236 : decode cX6_findWay 236 = .ok (.goto (-86), 3) := by decide +kernel
theorem dX6_findWay_239 : decode cX6_findWay 239 = .ok (.aload_n 0, 1) := by decide +kernel
theorem dX6_findWay_240 : decode cX6_findWay 240 = .ok (.getfield 22, 3) := by decide +kernel
theorem dX6_findWay_243 : decode cX6_findWay 243 = .ok (.iload_n 3, 1) := by decide +kernel
theorem dX6_findWay_244 : decode cX6_findWay 244 = .ok (.bipush 81, 2) := by decide +kernel
theorem dX6_findWay_246 : decode cX6_findWay 246 = .ok (.imul, 1) := by decide +kernel
theorem dX6_findWay_247 : decode cX6_findWay 247 = .ok (.iload 4, 2) := by decide +kernel
theorem dX6_findWay_249 : decode cX6_findWay 249 = .ok (.iadd, 1) := by decide +kernel
theorem dX6_findWay_250 : decode cX6_findWay 250 = .ok (.iload 5, 2) := by decide +kernel
theorem dX6_findWay_252 : decode cX6_findWay 252 = .ok (.iastore, 1) := by decide +kernel
theorem dX6_findWay_253 : decode cX6_findWay 253 = .ok (.iinc 4 1, 3) := by decide +kernel
theorem dX6_findWay_256 : decode cX6_findWay 256 = .ok (.goto (-145), 3) := by decide +kernel
theorem dX6_findWay_259 : decode cX6_findWay 259 = .ok (.iinc 3 (-1), 3) := by decide +kernel
theorem dX6_findWay_262 : decode cX6_findWay 262 = .ok (.goto (-234), 3) := by decide +kernel
theorem dX6_findWay_265 : decode cX6_findWay 265 = .ok (.aload_n 0, 1) := by decide +kernel
theorem dX6_findWay_266 : decode cX6_findWay 266 = .ok (.getfield 22, 3) := by decide +kernel
theorem dX6_findWay_269 : decode cX6_findWay 269 = .ok (.aload_n 0, 1) := by decide +kernel
theorem dX6_findWay_270 : decode cX6_findWay 270 = .ok (.invokevirtual 186, 3) := by decide +kernel
theorem dX6_findWay_273 : decode cX6_findWay 273 = .ok (.iaload, 1) := by decide +kernel
theorem dX6_findWay_274 : decode cX6_findWay 274 = .ok (.ireturn, 1) := by decide +kernel
theorem dX6_allBeats_0 : decode cX6_allBeats 0 = .ok (.iconst 1, 1) := by decide +kernel
theorem dX6_allBeats_1 : decode cX6_allBeats 1 = .ok (.aload_n 0, 1) := by decide +kernel
theorem dX6_allBeats_2 : decode cX6_allBeats 2 = .ok (.getfield 9, 3) := by decide +kernel
theorem dX6_allBeats_5 : decode cX6_allBeats 5 = .ok (.iconst 1, 1) := by decide +kernel
theorem dX6_allBeats_6 : decode cX6_allBeats 6 = .ok (.iaload, 1) := by decide +kernel
theorem dX6_allBeats_7 : decode cX6_allBeats 7 = .ok (.ishl, 1) := by decide +kernel
theorem dX6_allBeats_8 : decode cX6_allBeats 8 = .ok (.iconst 1, 1) := by decide +kernel
theorem dX6_allBeats_9 : decode cX6_allBeats 9 = .ok (.isub, 1) := by decide +kernel
theorem dX6_allBeats_10 : decode cX6_allBeats 10 = .ok (.ireturn, 1) := by decide +kernel
theorem dX6_doesGo_0 : decode cX6_doesGo 0 = .ok (.aload_n 0, 1) := by decide +kernel
theorem dX6_doesGo_1 : decode cX6_doesGo 1 = .ok (.invokevirtual 152, 3) := by decide +kernel
theorem dX6_doesGo_4 : decode cX6_doesGo 4 = .ok (.ifCond .ne 7, 3) := by decide +kernel
theorem dX6_doesGo_7 : decode cX6_doesGo 7 = .ok (.iconst 1, 1) := by decide +kernel
theorem dX6_doesGo_8 : decode cX6_doesGo 8 = .ok (.goto 4, 3) := by decide +kernel
theorem dX6_doesGo_11 : decode cX6_doesGo 11 = .ok (.iconst 0, 1) := by decide +kernel
theorem dX6_doesGo_12 : decode cX6_doesGo 12 = .ok (.ireturn, 1) := by decide +kernel
theorem dX6_least_0 : decode cX6_least 0 = .ok (.iload_n 1, 1) := by decide +kernel
theorem dX6_least_1 : decode cX6_least 1 = .ok (.invokestatic 189, 3) := by decide +kernel
theorem dX6_least_4 : decode cX6_least 4 = .ok (.ifCond .ne 10, 3) := by decide +kernel
theorem dX6_least_7 : decode cX6_least 7 = .ok (.aload_n 0, 1) := by decide +kernel
theorem dX6_least_8 : decode cX6_least 8 = .ok (.ldc 70, 2) := by decide +kernel
theorem dX6_least_10 : decode cX6_least 10 = .ok (.invokevirtual 87, 3) := by decide +kernel
theorem dX6_least_13 : decode cX6_least 13 = .ok (.ireturn, 1) := by decide +kernel
theorem dX6_least_14 : decode cX6_least 14 = .ok (.aload_n 0, 1) := by decide +kernel
theorem dX6_least_15 : decode cX6_least 15 = .ok (.invokevirtual 192, 3) := by decide +kernel
theorem dX6_least_18 : decode cX6_least 18 = .ok (.ifCond .eq 15, 3) := by decide +kernel
theorem dX6_least_21 : decode cX6_least 21 = .ok (.aload_n 0, 1) := by decide +kernel
theorem dX6_least_22 : decode cX6_least 22 = .ok (.aload_n 0, 1) := by decide +kernel
theorem dX6_least_23 : decode cX6_least 23 = .ok (.invokevirtual 196, 3) := by decide +kernel
theorem dX6_least_26 : decode cX6_least 26 = .ok (.iload_n 1, 1) := by decide +kernel
theorem dX6_least_27 : decode cX6_least 27 = .ok (.invokevirtual 199, 3) := by decide +kernel
theorem dX6_least_30 : decode cX6_least 30 = .ok (.goto 9, 3) := by decide +kernel
theorem dX6_least_33 : decode cX6_least 33 = .ok (.aload_n 0, 1) := by decide +kernel
theorem dX6_least_34 : decode cX6_least 34 = .ok (.ldc 162, 2) := by decide +kernel
theorem dX6_least_36 : decode cX6_least 36 = .ok (.invokevirtual 87, 3) := by decide +kernel
theorem dX6_least_39 : decode cX6_least 39 = .ok (.ireturn, 1) := by decide +kernel
theorem dX6_nextHold_0 : decode cX6_nextHold 0 = .ok (.iconst 0, 1) := by decide +kernel
theorem dX6_nextHold_1 : decode cX6_nextHold 1 = .ok (.istore 4, 2) := by decide +kernel
theorem dX6_nextHold_3 : decode cX6_nextHold 3 = .ok (.aload_n 0, 1) := by decide +kernel
theorem dX6_nextHold_4 : decode cX6_nextHold 4 = .ok (.getfield 25, 3) := by decide +kernel
theorem dX6_nextHold_7 : decode cX6_nextHold 7 = .ok (.iload_n 2, 1) := by decide +kernel
theorem dX6_nextHold_8 : decode cX6_nextHold 8 = .ok (.bipush 81, 2) := by decide +kernel
theorem dX6_nextHold_10 : decode cX6_nextHold 10 = .ok (.imul, 1) := by decide +kernel
theorem dX6_nextHold_11 : decode cX6_nextHold 11 = .ok (.iload 4, 2) := by decide +kernel
theorem dX6_nextHold_13 : decode cX6_nextHold 13 = .ok (.iadd, 1) := by decide +kernel
theorem dX6_nextHold_14 : decode cX6_nextHold 14 = .ok (.baload, 1) := by decide +kernel
theorem dX6_nextHold_15 : decode cX6_nextHold 15 = .ok (.ifCond .eq 40, 3) := by decide +kernel
theorem dX6_nextHold_18 : decode cX6_nextHold 18 = .ok (.aload_n 0, 1) := by decide +kernel
theorem dX6_nextHold_19 : decode cX6_nextHold 19 = .ok (.iload_n 1, 1) := by decide +kernel
theorem dX6_nextHold_20 : decode cX6_nextHold 20 = .ok (.iload 4, 2) := by decide +kernel
theorem dX6_nextHold_22 : decode cX6_nextHold 22 = .ok (.iload_n 3, 1) := by decide +kernel
theorem dX6_nextHold_23 : decode cX6_nextHold 23 = .ok (.invokevirtual 179, 3) := by decide +kernel
theorem dX6_nextHold_26 : decode cX6_nextHold 26 = .ok (.aload_n 0, 1) := by decide +kernel
theorem dX6_nextHold_27 : decode cX6_nextHold 27 = .ok (.getfield 22, 3) := by decide +kernel
theorem dX6_nextHold_30 : decode cX6_nextHold 30 = .ok (.iload_n 2, 1) := by decide +kernel
theorem dX6_nextHold_31 : decode cX6_nextHold 31 = .ok (.iconst 1, 1) := by decide +kernel
theorem dX6_nextHold_32 : decode cX6_nextHold 32 = .ok (.iadd, 1) := by decide +kernel
theorem dX6_nextHold_33 : decode cX6_nextHold 33 = .ok (.bipush 81, 2) := by decide +kernel
theorem dX6_nextHold_35 : decode cX6_nextHold 35 = .ok (.imul, 1) := by decide +kernel
theorem dX6_nextHold_36 : decode cX6_nextHold 36 = .ok (.iload 4, 2) := by decide +kernel
theorem dX6_nextHold_38 : decode cX6_nextHold 38 = .ok (.iadd, 1) := by decide +kernel
theorem dX6_nextHold_39 : decode cX6_nextHold 39 = .ok (.iaload, 1) := by decide +kernel
theorem dX6_nextHold_40 : decode cX6_nextHold 40 = .ok (.iadd, 1) := by decide +kernel
theorem dX6_nextHold_41 : decode cX6_nextHold 41 = .ok (.aload_n 0, 1) := by decide +kernel
theorem dX6_nextHold_42 : decode cX6_nextHold 42 = .ok (.getfield 22, 3) := by decide +kernel
theorem dX6_nextHold_45 : decode cX6_nextHold 45 = .ok (.iload_n 2, 1) := by decide +kernel
theorem dX6_nextHold_46 : decode cX6_nextHold 46 = .ok (.bipush 81, 2) := by decide +kernel
theorem dX6_nextHold_48 : decode cX6_nextHold 48 = .ok (.imul, 1) := by decide +kernel
theorem dX6_nextHold_49 : decode cX6_nextHold 49 = .ok (.iload_n 1, 1) := by decide +kernel
theorem dX6_nextHold_50 : decode cX6_nextHold 50 = .ok (.iadd, 1) := by decide +kernel
theorem dX6_nextHold_51 : decode cX6_nextHold 51 = .ok (.iaload, 1) := by decide +kernel
theorem dX6_nextHold_52 : decode cX6_nextHold 52 = .ok (.if_icmp .eq 9, 3) := by decide +kernel
theorem dX6_nextHold_55 : decode cX6_nextHold 55 = .ok (.iinc 4 1, 3) := by decide +kernel
theorem dX6_nextHold_58 : decode cX6_nextHold 58 = .ok (.goto (-55), 3) := by decide +kernel
theorem dX6_nextHold_61 : decode cX6_nextHold 61 = .ok (.iload 4, 2) := by decide +kernel
theorem dX6_nextHold_63 : decode cX6_nextHold 63 = .ok (.ireturn, 1) := by decide +kernel
theorem dX6_held_0 : decode cX6_held 0 = .ok (.aload_n 0, 1) := by decide +kernel
theorem dX6_held_1 : decode cX6_held 1 = .ok (.iload_n 1, 1) := by decide +kernel
theorem dX6_held_2 : decode cX6_held 2 = .ok (.invokevirtual 143, 3) := by decide +kernel
theorem dX6_held_5 : decode cX6_held 5 = .ok (.ifCond .eq 17, 3) := by decide +kernel
theorem dX6_held_8 : decode cX6_held 8 = .ok (.iload_n 2, 1) := by decide +kernel
theorem dX6_held_9 : decode cX6_held 9 = .ok (.invokestatic 159, 3) := by decide +kernel
theorem dX6_held_12 : decode cX6_held 12 = .ok (.ifCond .eq 10, 3) := by decide +kernel
theorem dX6_held_15 : decode cX6_held 15 = .ok (.iload_n 3, 1) := by decide +kernel
theorem dX6_held_16 : decode cX6_held 16 = .ok (.invokestatic 189, 3) := by decide +kernel
theorem dX6_held_19 : decode cX6_held 19 = .ok (.ifCond .ne 10, 3) := by decide +kernel
theorem dX6_held_22 : decode cX6_held 22 = .ok (.aload_n 0, 1) := by decide +kernel
theorem dX6_held_23 : decode cX6_held 23 = .ok (.ldc 70, 2) := by decide +kernel
theorem dX6_held_25 : decode cX6_held 25 = .ok (.invokevirtual 87, 3) := by decide +kernel
theorem dX6_held_28 : decode cX6_held 28 = .ok (.ireturn, 1) := by decide +kernel
theorem dX6_held_29 : decode cX6_held 29 = .ok (.aload_n 0, 1) := by decide +kernel
theorem dX6_held_30 : decode cX6_held 30 = .ok (.invokevirtual 192, 3) := by decide +kernel
theorem dX6_held_33 : decode cX6_held 33 = .ok (.ifCond .ne 10, 3) := by decide +kernel
theorem dX6_held_36 : decode cX6_held 36 = .ok (.aload_n 0, 1) := by decide +kernel
theorem dX6_held_37 : decode cX6_held 37 = .ok (.ldc 162, 2) := by decide +kernel
theorem dX6_held_39 : decode cX6_held 39 = .ok (.invokevirtual 87, 3) := by decide +kernel
theorem dX6_held_42 : decode cX6_held 42 = .ok (.ireturn, 1) := by decide +kernel
theorem dX6_held_43 : decode cX6_held 43 = .ok (.aload_n 0, 1) := by decide +kernel
theorem dX6_held_44 : decode cX6_held 44 = .ok (.aload_n 0, 1) := by decide +kernel
theorem dX6_held_45 : decode cX6_held 45 = .ok (.invokevirtual 196, 3) := by decide +kernel
theorem dX6_held_48 : decode cX6_held 48 = .ok (.iload_n 3, 1) := by decide +kernel
theorem dX6_held_49 : decode cX6_held 49 = .ok (.invokevirtual 199, 3) := by decide +kernel
theorem dX6_held_52 : decode cX6_held 52 = .ok (.istore 4, 2) := by decide +kernel
theorem dX6_held_54 : decode cX6_held 54 = .ok (.iload 4, 2) := by decide +kernel
theorem dX6_held_56 : decode cX6_held 56 = .ok (.ldc 178, 2) := by decide +kernel
theorem dX6_held_58 : decode cX6_held 58 = .ok (.if_icmp .ge 10, 3) := by decide +kernel
theorem dX6_held_61 : decode cX6_held 61 = .ok (.aload_n 0, 1) := by decide +kernel
theorem dX6_held_62 : decode cX6_held 62 = .ok (.invokevirtual 186, 3) := by decide +kernel
theorem dX6_held_65 : decode cX6_held 65 = .ok (.goto 4, 3) := by decide +kernel
theorem dX6_held_68 : decode cX6_held 68 = .ok (.iconst 0, 1) := by decide +kernel
theorem dX6_held_69 : decode cX6_held 69 = .ok (.istore 5, 2) := by decide +kernel
theorem dX6_held_71 : decode cX6_held 71 = .ok (.iconst 0, 1) := by decide +kernel
theorem dX6_held_72 : decode cX6_held 72 = .ok (.istore 6, 2) := by decide +kernel
theorem dX6_held_74 : decode cX6_held 74 = .ok (.iload 6, 2) := by decide +kernel
theorem dX6_held_76 : decode cX6_held 76 = .ok (.iload_n 1, 1) := by decide +kernel
theorem dX6_held_77 : decode cX6_held 77 = .ok (.if_icmp .gt 20, 3) := by decide +kernel
theorem dX6_held_80 : decode cX6_held 80 = .ok (.aload_n 0, 1) := by decide +kernel
theorem dX6_held_81 : decode cX6_held 81 = .ok (.iload 5, 2) := by decide +kernel
theorem dX6_held_83 : decode cX6_held 83 = .ok (.iload 6, 2) := by decide +kernel
theorem dX6_held_85 : decode cX6_held 85 = .ok (.iload_n 3, 1) := by decide +kernel
theorem dX6_held_86 : decode cX6_held 86 = .ok (.invokevirtual 202, 3) := by decide +kernel
theorem dX6_held_89 : decode cX6_held 89 = .ok (.istore 5, 2) := by decide +kernel
theorem dX6_held_91 : decode cX6_held 91 = .ok (.iinc 6 1, 3) := by decide +kernel
theorem dX6_held_94 : decode cX6_held 94 = .ok (.goto (-20), 3) := by decide +kernel
theorem dX6_held_97 : decode cX6_held 97 = .ok (.iload_n 2, 1) := by decide +kernel
theorem dX6_held_98 : decode cX6_held 98 = .ok (.ifCond .ne 11, 3) := by decide +kernel
theorem dX6_held_101 : decode cX6_held 101 = .ok (.iload 5, 2) := by decide +kernel
theorem dX6_held_103 : decode cX6_held 103 = .ok (.invokestatic 169, 3) := by decide +kernel
theorem dX6_held_106 : decode cX6_held 106 = .ok (.goto 8, 3) := by decide +kernel
theorem dX6_held_109 : decode cX6_held 109 = .ok (.iload 5, 2) := by decide +kernel
theorem dX6_held_111 : decode cX6_held 111 = .ok (.invokestatic 172, 3) := by decide +kernel
theorem dX6_held_114 : decode cX6_held 114 = .ok (.ireturn, 1) := by decide +kernel
theorem dX6_part_0 : decode cX6_part 0 = .ok (.aload_n 0, 1) := by decide +kernel
theorem dX6_part_1 : decode cX6_part 1 = .ok (.iload_n 1, 1) := by decide +kernel
theorem dX6_part_2 : decode cX6_part 2 = .ok (.invokevirtual 143, 3) := by decide +kernel
theorem dX6_part_5 : decode cX6_part 5 = .ok (.ifCond .eq 23, 3) := by decide +kernel
theorem dX6_part_8 : decode cX6_part 8 = .ok (.aload_n 0, 1) := by decide +kernel
theorem dX6_part_9 : decode cX6_part 9 = .ok (.iload_n 2, 1) := by decide +kernel
theorem dX6_part_10 : decode cX6_part 10 = .ok (.invokevirtual 143, 3) := by decide +kernel
theorem dX6_part_13 : decode cX6_part 13 = .ok (.ifCond .eq 15, 3) := by decide +kernel
theorem dX6_part_16 : decode cX6_part 16 = .ok (.iload_n 1, 1) := by decide +kernel
theorem dX6_part_17 : decode cX6_part 17 = .ok (.iload_n 2, 1) := by decide +kernel
theorem dX6_part_18 : decode cX6_part 18 = .ok (.if_icmp .gt 10, 3) := by decide +kernel
theorem dX6_part_21 : decode cX6_part 21 = .ok (.iload_n 3, 1) := by decide +kernel
theorem dX6_part_22 : decode cX6_part 22 = .ok (.invokestatic 189, 3) := by decide +kernel
theorem dX6_part_25 : decode cX6_part 25 = .ok (.ifCond .ne 10, 3) := by decide +kernel
theorem dX6_part_28 : decode cX6_part 28 = .ok (.aload_n 0, 1) := by decide +kernel
theorem dX6_part_29 : decode cX6_part 29 = .ok (.ldc 70, 2) := by decide +kernel
theorem dX6_part_31 : decode cX6_part 31 = .ok (.invokevirtual 87, 3) := by decide +kernel
theorem dX6_part_34 : decode cX6_part 34 = .ok (.ireturn, 1) := by decide +kernel
theorem dX6_part_35 : decode cX6_part 35 = .ok (.iconst 1, 1) := by decide +kernel
theorem dX6_part_36 : decode cX6_part 36 = .ok (.iload_n 2, 1) := by decide +kernel
theorem dX6_part_37 : decode cX6_part 37 = .ok (.iconst 1, 1) := by decide +kernel
theorem dX6_part_38 : decode cX6_part 38 = .ok (.iadd, 1) := by decide +kernel
theorem dX6_part_39 : decode cX6_part 39 = .ok (.ishl, 1) := by decide +kernel
theorem dX6_part_40 : decode cX6_part 40 = .ok (.iconst 1, 1) := by decide +kernel
theorem dX6_part_41 : decode cX6_part 41 = .ok (.iload_n 1, 1) := by decide +kernel
theorem dX6_part_42 : decode cX6_part 42 = .ok (.ishl, 1) := by decide +kernel
theorem dX6_part_43 : decode cX6_part 43 = .ok (.isub, 1) := by decide +kernel
theorem dX6_part_44 : decode cX6_part 44 = .ok (.istore 4, 2) := by decide +kernel
theorem dX6_part_46 : decode cX6_part 46 = .ok (.aload_n 0, 1) := by decide +kernel
theorem dX6_part_47 : decode cX6_part 47 = .ok (.invokevirtual 152, 3) := by decide +kernel
theorem dX6_part_50 : decode cX6_part 50 = .ok (.iload 4, 2) := by decide +kernel
theorem dX6_part_52 : decode cX6_part 52 = .ok (.iand, 1) := by decide +kernel
theorem dX6_part_53 : decode cX6_part 53 = .ok (.ifCond .ne 13, 3) := by decide +kernel
theorem dX6_part_56 : decode cX6_part 56 = .ok (.aload_n 0, 1) := by decide +kernel
theorem dX6_part_57 : decode cX6_part 57 = .ok (.iload 4, 2) := by decide +kernel
theorem dX6_part_59 : decode cX6_part 59 = .ok (.iload_n 3, 1) := by decide +kernel
theorem dX6_part_60 : decode cX6_part 60 = .ok (.invokevirtual 199, 3) := by decide +kernel
theorem dX6_part_63 : decode cX6_part 63 = .ok (.goto 9, 3) := by decide +kernel
theorem dX6_part_66 : decode cX6_part 66 = .ok (.aload_n 0, 1) := by decide +kernel
theorem dX6_part_67 : decode cX6_part 67 = .ok (.ldc 162, 2) := by decide +kernel
theorem dX6_part_69 : decode cX6_part 69 = .ok (.invokevirtual 87, 3) := by decide +kernel
theorem dX6_part_72 : decode cX6_part 72 = .ok (.ireturn, 1) := by decide +kernel
theorem dX6_dear_0 : decode cX6_dear 0 = .ok (.aload_n 0, 1) := by decide +kernel
theorem dX6_dear_1 : decode cX6_dear 1 = .ok (.getfield 9, 3) := by decide +kernel
theorem dX6_dear_4 : decode cX6_dear 4 = .ok (.iconst 1, 1) := by decide +kernel
theorem dX6_dear_5 : decode cX6_dear 5 = .ok (.iaload, 1) := by decide +kernel
theorem dX6_dear_6 : decode cX6_dear 6 = .ok (.ifCond .ne 10, 3) := by decide +kernel
theorem dX6_dear_9 : decode cX6_dear 9 = .ok (.aload_n 0, 1) := by decide +kernel
theorem dX6_dear_10 : decode cX6_dear 10 = .ok (.ldc 205, 2) := by decide +kernel
theorem dX6_dear_12 : decode cX6_dear 12 = .ok (.invokevirtual 87, 3) := by decide +kernel
theorem dX6_dear_15 : decode cX6_dear 15 = .ok (.ireturn, 1) := by decide +kernel
theorem dX6_dear_16 : decode cX6_dear 16 = .ok (.aload_n 0, 1) := by decide +kernel
theorem dX6_dear_17 : decode cX6_dear 17 = .ok (.invokevirtual 192, 3) := by decide +kernel
theorem dX6_dear_20 : decode cX6_dear 20 = .ok (.ifCond .ne 10, 3) := by decide +kernel
theorem dX6_dear_23 : decode cX6_dear 23 = .ok (.aload_n 0, 1) := by decide +kernel
theorem dX6_dear_24 : decode cX6_dear 24 = .ok (.ldc 162, 2) := by decide +kernel
theorem dX6_dear_26 : decode cX6_dear 26 = .ok (.invokevirtual 87, 3) := by decide +kernel
theorem dX6_dear_29 : decode cX6_dear 29 = .ok (.ireturn, 1) := by decide +kernel
theorem dX6_dear_30 : decode cX6_dear 30 = .ok (.iconst (-1), 1) := by decide +kernel
theorem dX6_dear_31 : decode cX6_dear 31 = .ok (.istore_n 1, 1) := by decide +kernel
theorem dX6_dear_32 : decode cX6_dear 32 = .ok (.ldc 178, 2) := by decide +kernel
theorem dX6_dear_34 : decode cX6_dear 34 = .ok (.istore_n 2, 1) := by decide +kernel
theorem dX6_dear_35 : decode cX6_dear 35 = .ok (.iconst 0, 1) := by decide +kernel
theorem dX6_dear_36 : decode cX6_dear 36 = .ok (.istore_n 3, 1) := by decide +kernel
theorem dX6_dear_37 : decode cX6_dear 37 = .ok (.iload_n 3, 1) := by decide +kernel
theorem dX6_dear_38 : decode cX6_dear 38 = .ok (.aload_n 0, 1) := by decide +kernel
theorem dX6_dear_39 : decode cX6_dear 39 = .ok (.getfield 9, 3) := by decide +kernel
theorem dX6_dear_42 : decode cX6_dear 42 = .ok (.iconst 1, 1) := by decide +kernel
theorem dX6_dear_43 : decode cX6_dear 43 = .ok (.iaload, 1) := by decide +kernel
theorem dX6_dear_44 : decode cX6_dear 44 = .ok (.if_icmp .ge 45, 3) := by decide +kernel
theorem dX6_dear_47 : decode cX6_dear 47 = .ok (.aload_n 0, 1) := by decide +kernel
theorem dX6_dear_48 : decode cX6_dear 48 = .ok (.aload_n 0, 1) := by decide +kernel
theorem dX6_dear_49 : decode cX6_dear 49 = .ok (.invokevirtual 196, 3) := by decide +kernel
theorem dX6_dear_52 : decode cX6_dear 52 = .ok (.iconst 1, 1) := by decide +kernel
theorem dX6_dear_53 : decode cX6_dear 53 = .ok (.iload_n 3, 1) := by decide +kernel
theorem dX6_dear_54 : decode cX6_dear 54 = .ok (.ishl, 1) := by decide +kernel
theorem dX6_dear_55 : decode cX6_dear 55 = .ok (.iconst (-1), 1) := by decide +kernel
theorem dX6_dear_56 : decode cX6_dear 56 = .ok (.ixor, 1) := by decide +kernel
theorem dX6_dear_57 : decode cX6_dear 57 = .ok (.iand, 1) := by decide +kernel
theorem dX6_dear_58 : decode cX6_dear 58 = .ok (.iconst 0, 1) := by decide +kernel
theorem dX6_dear_59 : decode cX6_dear 59 = .ok (.invokevirtual 199, 3) := by decide +kernel
theorem dX6_dear_62 : decode cX6_dear 62 = .ok (.istore 4, 2) := by decide +kernel
theorem dX6_dear_64 : decode cX6_dear 64 = .ok (.iload 4, 2) := by decide +kernel
theorem dX6_dear_66 : decode cX6_dear 66 = .ok (.iload_n 2, 1) := by decide +kernel
theorem dX6_dear_67 : decode cX6_dear 67 = .ok (.if_icmp .ge 7, 3) := by decide +kernel
theorem dX6_dear_70 : decode cX6_dear 70 = .ok (.iload_n 3, 1) := by decide +kernel
theorem dX6_dear_71 : decode cX6_dear 71 = .ok (.goto 4, 3) := by decide +kernel
theorem dX6_dear_74 : decode cX6_dear 74 = .ok (.iload_n 1, 1) := by decide +kernel
theorem dX6_dear_75 : decode cX6_dear 75 = .ok (.istore_n 1, 1) := by decide +kernel
theorem dX6_dear_76 : decode cX6_dear 76 = .ok (.iload_n 2, 1) := by decide +kernel
theorem dX6_dear_77 : decode cX6_dear 77 = .ok (.iload 4, 2) := by decide +kernel
theorem dX6_dear_79 : decode cX6_dear 79 = .ok (.invokestatic 183, 3) := by decide +kernel
theorem dX6_dear_82 : decode cX6_dear 82 = .ok (.istore_n 2, 1) := by decide +kernel
theorem dX6_dear_83 : decode cX6_dear 83 = .ok (.iinc 3 1, 3) := by decide +kernel
theorem dX6_dear_86 : decode cX6_dear 86 = .ok (.goto (-49), 3) := by decide +kernel
theorem dX6_dear_89 : decode cX6_dear 89 = .ok (.iload_n 1, 1) := by decide +kernel
theorem dX6_dear_90 : decode cX6_dear 90 = .ok (.ireturn, 1) := by decide +kernel
theorem dX6_bestRehang_0 : decode cX6_bestRehang 0 = .ok (.iconst 0, 1) := by decide +kernel
theorem dX6_bestRehang_1 : decode cX6_bestRehang 1 = .ok (.istore_n 1, 1) := by decide +kernel
theorem dX6_bestRehang_2 : decode cX6_bestRehang 2 = .ok (.aload_n 0, 1) := by decide +kernel
theorem dX6_bestRehang_3 : decode cX6_bestRehang 3 = .ok (.aload_n 0, 1) := by decide +kernel
theorem dX6_bestRehang_4 : decode cX6_bestRehang 4 = .ok (.aload_n 0, 1) := by decide +kernel
theorem dX6_bestRehang_5 : decode cX6_bestRehang 5 = .ok (.invokevirtual 196, 3) := by decide +kernel
theorem dX6_bestRehang_8 : decode cX6_bestRehang 8 = .ok (.iconst 1, 1) := by decide +kernel
theorem dX6_bestRehang_9 : decode cX6_bestRehang 9 = .ok (.invokevirtual 199, 3) := by decide +kernel
theorem dX6_bestRehang_12 : decode cX6_bestRehang 12 = .ok (.putfield 206, 3) := by decide +kernel
theorem dX6_bestRehang_15 : decode cX6_bestRehang 15 = .ok (.iconst 0, 1) := by decide +kernel
theorem dX6_bestRehang_16 : decode cX6_bestRehang 16 = .ok (.istore_n 2, 1) := by decide +kernel
theorem dX6_bestRehang_17 : decode cX6_bestRehang 17 = .ok (.iload_n 2, 1) := by decide +kernel
theorem dX6_bestRehang_18 : decode cX6_bestRehang 18 = .ok (.aload_n 0, 1) := by decide +kernel
theorem dX6_bestRehang_19 : decode cX6_bestRehang 19 = .ok (.getfield 9, 3) := by decide +kernel
theorem dX6_bestRehang_22 : decode cX6_bestRehang 22 = .ok (.iconst 0, 1) := by decide +kernel
theorem dX6_bestRehang_23 : decode cX6_bestRehang 23 = .ok (.iaload, 1) := by decide +kernel
theorem dX6_bestRehang_24 : decode cX6_bestRehang 24 = .ok (.if_icmp .ge 102, 3) := by decide +kernel
theorem dX6_bestRehang_27 : decode cX6_bestRehang 27 = .ok (.iload_n 2, 1) := by decide +kernel
theorem dX6_bestRehang_28 : decode cX6_bestRehang 28 = .ok (.iconst 1, 1) := by decide +kernel
theorem dX6_bestRehang_29 : decode cX6_bestRehang 29 = .ok (.iadd, 1) := by decide +kernel
theorem dX6_bestRehang_30 : decode cX6_bestRehang 30 = .ok (.istore_n 3, 1) := by decide +kernel
theorem dX6_bestRehang_31 : decode cX6_bestRehang 31 = .ok (.iload_n 3, 1) := by decide +kernel
theorem dX6_bestRehang_32 : decode cX6_bestRehang 32 = .ok (.aload_n 0, 1) := by decide +kernel
theorem dX6_bestRehang_33 : decode cX6_bestRehang 33 = .ok (.getfield 9, 3) := by decide +kernel
theorem dX6_bestRehang_36 : decode cX6_bestRehang 36 = .ok (.iconst 0, 1) := by decide +kernel
theorem dX6_bestRehang_37 : decode cX6_bestRehang 37 = .ok (.iaload, 1) := by decide +kernel
theorem dX6_bestRehang_38 : decode cX6_bestRehang 38 = .ok (.if_icmp .ge 82, 3) := by decide +kernel
theorem dX6_bestRehang_41 : decode cX6_bestRehang 41 = .ok (.aload_n 0, 1) := by decide +kernel
theorem dX6_bestRehang_42 : decode cX6_bestRehang 42 = .ok (.iload_n 2, 1) := by decide +kernel
theorem dX6_bestRehang_43 : decode cX6_bestRehang 43 = .ok (.iload_n 3, 1) := by decide +kernel
theorem dX6_bestRehang_44 : decode cX6_bestRehang 44 = .ok (.invokevirtual 125, 3) := by decide +kernel
theorem dX6_bestRehang_47 : decode cX6_bestRehang 47 = .ok (.istore 4, 2) := by decide +kernel
theorem dX6_bestRehang_49 : decode cX6_bestRehang 49 = .ok (.iload 4, 2) := by decide +kernel
theorem dX6_bestRehang_51 : decode cX6_bestRehang 51 = .ok (.ifCond .ge 8, 3) := by decide +kernel
theorem dX6_bestRehang_54 : decode cX6_bestRehang 54 = .ok (.ldc 178, 2) := by decide +kernel
theorem dX6_bestRehang_56 : decode cX6_bestRehang 56 = .ok (.goto 12, 3) := by decide +kernel
theorem dX6_bestRehang_59 : decode cX6_bestRehang 59 = .ok (.aload_n 0, 1) := by decide +kernel
theorem dX6_bestRehang_60 : decode cX6_bestRehang 60 = .ok (.aload_n 0, 1) := by decide +kernel
theorem dX6_bestRehang_61 : decode cX6_bestRehang 61 = .ok (.invokevirtual 196, 3) := by decide +kernel
theorem dX6_bestRehang_64 : decode cX6_bestRehang 64 = .ok (.iconst 1, 1) := by decide +kernel
theorem dX6_bestRehang_65 : decode cX6_bestRehang 65 = .ok (.invokevirtual 199, 3) := by decide +kernel
theorem dX6_bestRehang_68 : decode cX6_bestRehang 68 = .ok (.istore 5, 2) := by decide +kernel
theorem dX6_bestRehang_70 : decode cX6_bestRehang 70 = .ok (.iload 5, 2) := by decide +kernel
theorem dX6_bestRehang_72 : decode cX6_bestRehang 72 = .ok (.aload_n 0, 1) := by decide +kernel
theorem dX6_bestRehang_73 : decode cX6_bestRehang 73 = .ok (.getfield 206, 3) := by decide +kernel
theorem dX6_bestRehang_76 : decode cX6_bestRehang 76 = .ok (.if_icmp .ge 12, 3) := by decide +kernel
theorem dX6_bestRehang_79 : decode cX6_bestRehang 79 = .ok (.bipush 10, 2) := by decide +kernel
theorem dX6_bestRehang_81 : decode cX6_bestRehang 81 = .ok (.iload_n 2, 1) := by decide +kernel
theorem dX6_bestRehang_82 : decode cX6_bestRehang 82 = .ok (.imul, 1) := by decide +kernel
theorem dX6_bestRehang_83 : decode cX6_bestRehang 83 = .ok (.iload_n 3, 1) := by decide +kernel
theorem dX6_bestRehang_84 : decode cX6_bestRehang 84 = .ok (.iadd, 1) := by decide +kernel
theorem dX6_bestRehang_85 : decode cX6_bestRehang 85 = .ok (.goto 4, 3) := by decide +kernel
theorem dX6_bestRehang_88 : decode cX6_bestRehang 88 = .ok (.iload_n 1, 1) := by decide +kernel
theorem dX6_bestRehang_89 : decode cX6_bestRehang 89 = .ok (.istore_n 1, 1) := by decide +kernel
theorem dX6_bestRehang_90 : decode cX6_bestRehang 90 = .ok (.aload_n 0, 1) := by decide +kernel
theorem dX6_bestRehang_91 : decode cX6_bestRehang 91 = .ok (.aload_n 0, 1) := by decide +kernel
theorem dX6_bestRehang_92 : decode cX6_bestRehang 92 = .ok (.getfield 206, 3) := by decide +kernel
theorem dX6_bestRehang_95 : decode cX6_bestRehang 95 = .ok (.iload 5, 2) := by decide +kernel
theorem dX6_bestRehang_97 : decode cX6_bestRehang 97 = .ok (.invokestatic 183, 3) := by decide +kernel
theorem dX6_bestRehang_100 : decode cX6_bestRehang 100 = .ok (.putfield 206, 3) := by decide +kernel
theorem dX6_bestRehang_103 : decode cX6_bestRehang 103 = .ok (.iload 4, 2) := by decide +kernel
theorem dX6_bestRehang_105 : decode cX6_bestRehang 105 = .ok (.aload_n 0, 1) := by decide +kernel
theorem dX6_bestRehang_106 : decode cX6_bestRehang 106 = .ok (.iload_n 2, 1) := by decide +kernel
theorem dX6_bestRehang_107 : decode cX6_bestRehang 107 = .ok (.iload_n 3, 1) := by decide +kernel
theorem dX6_bestRehang_108 : decode cX6_bestRehang 108 = .ok (.invokevirtual 125, 3) := by decide +kernel
theorem dX6_bestRehang_111 : decode cX6_bestRehang 111 = .ok (.iadd, 1) := by decide +kernel
theorem dX6_bestRehang_112 : decode cX6_bestRehang 112 = .ok (.istore 4, 2) := by decide +kernel
theorem dX6_bestRehang_114 : decode cX6_bestRehang 114 = .ok (.iinc 3 1, 3) := by decide +kernel
theorem dX6_bestRehang_117 : decode cX6_bestRehang 117 = .ok (.goto (-86), 3) := by decide +kernel
theorem dX6_bestRehang_120 : decode cX6_bestRehang 120 = .ok (.iinc 2 1, 3) := by decide +kernel
theorem dX6_bestRehang_123 : decode cX6_bestRehang 123 = .ok (.goto (-106), 3) := by decide +kernel
theorem dX6_bestRehang_126 : decode cX6_bestRehang 126 = .ok (.iload_n 1, 1) := by decide +kernel
theorem dX6_bestRehang_127 : decode cX6_bestRehang 127 = .ok (.ireturn, 1) := by decide +kernel
theorem dX6_rehang_0 : decode cX6_rehang 0 = .ok (.aload_n 0, 1) := by decide +kernel
theorem dX6_rehang_1 : decode cX6_rehang 1 = .ok (.invokevirtual 192, 3) := by decide +kernel
theorem dX6_rehang_4 : decode cX6_rehang 4 = .ok (.ifCond .eq 10, 3) := by decide +kernel
theorem dX6_rehang_7 : decode cX6_rehang 7 = .ok (.aload_n 0, 1) := by decide +kernel
theorem dX6_rehang_8 : decode cX6_rehang 8 = .ok (.invokevirtual 210, 3) := by decide +kernel
theorem dX6_rehang_11 : decode cX6_rehang 11 = .ok (.goto 9, 3) := by decide +kernel
theorem dX6_rehang_14 : decode cX6_rehang 14 = .ok (.aload_n 0, 1) := by decide +kernel
theorem dX6_rehang_15 : decode cX6_rehang 15 = .ok (.ldc 162, 2) := by decide +kernel
theorem dX6_rehang_17 : decode cX6_rehang 17 = .ok (.invokevirtual 87, 3) := by decide +kernel
theorem dX6_rehang_20 : decode cX6_rehang 20 = .ok (.ireturn, 1) := by decide +kernel
theorem dX6_rehung_0 : decode cX6_rehung 0 = .ok (.aload_n 0, 1) := by decide +kernel
theorem dX6_rehung_1 : decode cX6_rehung 1 = .ok (.invokevirtual 192, 3) := by decide +kernel
theorem dX6_rehung_4 : decode cX6_rehung 4 = .ok (.ifCond .ne 10, 3) := by decide +kernel
theorem dX6_rehung_7 : decode cX6_rehung 7 = .ok (.aload_n 0, 1) := by decide +kernel
theorem dX6_rehung_8 : decode cX6_rehung 8 = .ok (.ldc 162, 2) := by decide +kernel
theorem dX6_rehung_10 : decode cX6_rehung 10 = .ok (.invokevirtual 87, 3) := by decide +kernel
theorem dX6_rehung_13 : decode cX6_rehung 13 = .ok (.ireturn, 1) := by decide +kernel
theorem dX6_rehung_14 : decode cX6_rehung 14 = .ok (.aload_n 0, 1) := by decide +kernel
theorem dX6_rehung_15 : decode cX6_rehung 15 = .ok (.invokevirtual 210, 3) := by decide +kernel
theorem dX6_rehung_18 : decode cX6_rehung 18 = .ok (.istore_n 1, 1) := by decide +kernel
theorem dX6_rehung_19 : decode cX6_rehung 19 = .ok (.iload_n 1, 1) := by decide +kernel
theorem dX6_rehung_20 : decode cX6_rehung 20 = .ok (.ifCond .ge 8, 3) := by decide +kernel
theorem dX6_rehung_23 : decode cX6_rehung 23 = .ok (.ldc 178, 2) := by decide +kernel
theorem dX6_rehung_25 : decode cX6_rehung 25 = .ok (.goto 7, 3) := by decide +kernel
theorem dX6_rehung_28 : decode cX6_rehung 28 = .ok (.aload_n 0, 1) := by decide +kernel
theorem dX6_rehung_29 : decode cX6_rehung 29 = .ok (.getfield 206, 3) := by decide +kernel
theorem dX6_rehung_32 : decode cX6_rehung 32 = .ok (.ireturn, 1) := by decide +kernel
theorem dX6_kindFor_0 : decode cX6_kindFor 0 = .ok (.aload_n 0, 1) := by decide +kernel
theorem dX6_kindFor_1 : decode cX6_kindFor 1 = .ok (.iload_n 1, 1) := by decide +kernel
theorem dX6_kindFor_2 : decode cX6_kindFor 2 = .ok (.invokevirtual 110, 3) := by decide +kernel
theorem dX6_kindFor_5 : decode cX6_kindFor 5 = .ok (.ifCond .ne 10, 3) := by decide +kernel
theorem dX6_kindFor_8 : decode cX6_kindFor 8 = .ok (.aload_n 0, 1) := by decide +kernel
theorem dX6_kindFor_9 : decode cX6_kindFor 9 = .ok (.ldc 70, 2) := by decide +kernel
theorem dX6_kindFor_11 : decode cX6_kindFor 11 = .ok (.invokevirtual 87, 3) := by decide +kernel
theorem dX6_kindFor_14 : decode cX6_kindFor 14 = .ok (.ireturn, 1) := by decide +kernel
theorem dX6_kindFor_15 : decode cX6_kindFor 15 = .ok (.aload_n 0, 1) := by decide +kernel
theorem dX6_kindFor_16 : decode cX6_kindFor 16 = .ok (.iload_n 1, 1) := by decide +kernel
theorem dX6_kindFor_17 : decode cX6_kindFor 17 = .ok (.iconst 0, 1) := by decide +kernel
theorem dX6_kindFor_18 : decode cX6_kindFor 18 = .ok (.invokevirtual 98, 3) := by decide +kernel
theorem dX6_kindFor_21 : decode cX6_kindFor 21 = .ok (.istore_n 2, 1) := by decide +kernel
theorem dX6_kindFor_22 : decode cX6_kindFor 22 = .ok (.iconst (-1), 1) := by decide +kernel
theorem dX6_kindFor_23 : decode cX6_kindFor 23 = .ok (.istore_n 3, 1) := by decide +kernel
theorem dX6_kindFor_24 : decode cX6_kindFor 24 = .ok (.iconst (-1), 1) := by decide +kernel
theorem dX6_kindFor_25 : decode cX6_kindFor 25 = .ok (.istore 4, 2) := by decide +kernel
theorem dX6_kindFor_27 : decode cX6_kindFor 27 = .ok (.iconst 0, 1) := by decide +kernel
theorem dX6_kindFor_28 : decode cX6_kindFor 28 = .ok (.istore 5, 2) := by decide +kernel
theorem dX6_kindFor_30 : decode cX6_kindFor 30 = .ok (.iconst 0, 1) := by decide +kernel
theorem dX6_kindFor_31 : decode cX6_kindFor 31 = .ok (.istore 6, 2) := by decide +kernel
theorem dX6_kindFor_33 : decode cX6_kindFor 33 = .ok (.iload 6, 2) := by decide +kernel
theorem dX6_kindFor_35 : decode cX6_kindFor 35 = .ok (.bipush 6, 2) := by decide +kernel
theorem dX6_kindFor_37 : decode cX6_kindFor 37 = .ok (.if_icmp .gt 84, 3) := by decide +kernel
theorem dX6_kindFor_40 : decode cX6_kindFor 40 = .ok (.aload_n 0, 1) := by decide +kernel
theorem dX6_kindFor_41 : decode cX6_kindFor 41 = .ok (.getfield 9, 3) := by decide +kernel
theorem dX6_kindFor_44 : decode cX6_kindFor 44 = .ok (.iload_n 1, 1) := by decide +kernel
theorem dX6_kindFor_45 : decode cX6_kindFor 45 = .ok (.iconst 0, 1) := by decide +kernel
theorem dX6_kindFor_46 : decode cX6_kindFor 46 = .ok (.invokestatic 79, 3) := by decide +kernel
theorem dX6_kindFor_49 : decode cX6_kindFor 49 = .ok (.iload 6, 2) := by decide +kernel
theorem dX6_kindFor_51 : decode cX6_kindFor 51 = .ok (.iastore, 1) := by decide +kernel
theorem dX6_kindFor_52 : decode cX6_kindFor 52 = .ok (.aload_n 0, 1) := by decide +kernel
theorem dX6_kindFor_53 : decode cX6_kindFor 53 = .ok (.invokevirtual 196, 3) := by decide +kernel
theorem dX6_kindFor_56 : decode cX6_kindFor 56 = .ok (.aload_n 0, 1) := by decide +kernel
theorem dX6_kindFor_57 : decode cX6_kindFor 57 = .ok (.invokevirtual 152, 3) := by decide +kernel
theorem dX6_kindFor_60 : decode cX6_kindFor 60 = .ok (.iconst (-1), 1) := by decide +kernel
theorem dX6_kindFor_61 : decode cX6_kindFor 61 = .ok (.ixor, 1) := by decide +kernel
theorem dX6_kindFor_62 : decode cX6_kindFor 62 = .ok (.iand, 1) := by decide +kernel
theorem dX6_kindFor_63 : decode cX6_kindFor 63 = .ok (.istore 7, 2) := by decide +kernel
theorem dX6_kindFor_65 : decode cX6_kindFor 65 = .ok (.aload_n 0, 1) := by decide +kernel
theorem dX6_kindFor_66 : decode cX6_kindFor 66 = .ok (.iload 7, 2) := by decide +kernel
theorem dX6_kindFor_68 : decode cX6_kindFor 68 = .ok (.iconst 0, 1) := by decide +kernel
theorem dX6_kindFor_69 : decode cX6_kindFor 69 = .ok (.invokevirtual 199, 3) := by decide +kernel
theorem dX6_kindFor_72 : decode cX6_kindFor 72 = .ok (.istore 8, 2) := by decide +kernel
theorem dX6_kindFor_74 : decode cX6_kindFor 74 = .ok (.iload 7, 2) := by decide +kernel
theorem dX6_kindFor_76 : decode cX6_kindFor 76 = .ok (.invokestatic 140, 3) := by decide +kernel
theorem dX6_kindFor_79 : decode cX6_kindFor 79 = .ok (.iload 4, 2) := by decide +kernel
theorem dX6_kindFor_81 : decode cX6_kindFor 81 = .ok (.if_icmp .gt 20, 3) := by decide +kernel
theorem dX6_kindFor_84 : decode cX6_kindFor 84 = .ok (.iload 7, 2) := by decide +kernel
theorem dX6_kindFor_86 : decode cX6_kindFor 86 = .ok (.invokestatic 140, 3) := by decide +kernel
theorem dX6_kindFor_89 : decode cX6_kindFor 89 = .ok (.iload 4, 2) := by decide +kernel
theorem dX6_kindFor_91 : decode cX6_kindFor 91 = .ok (.if_icmp .ne 24, 3) := by decide +kernel
theorem dX6_kindFor_94 : decode cX6_kindFor 94 = .ok (.iload 8, 2) := by decide +kernel
theorem dX6_kindFor_96 : decode cX6_kindFor 96 = .ok (.iload 5, 2) := by decide +kernel
theorem dX6_kindFor_98 : decode cX6_kindFor 98 = .ok (.if_icmp .ge 17, 3) := by decide +kernel
theorem dX6_kindFor_101 : decode cX6_kindFor 101 = .ok (.iload 6, 2) := by decide +kernel
theorem dX6_kindFor_103 : decode cX6_kindFor 103 = .ok (.istore_n 3, 1) := by decide +kernel
theorem dX6_kindFor_104 : decode cX6_kindFor 104 = .ok (.iload 7, 2) := by decide +kernel
theorem dX6_kindFor_106 : decode cX6_kindFor 106 = .ok (.invokestatic 140, 3) := by decide +kernel
theorem dX6_kindFor_109 : decode cX6_kindFor 109 = .ok (.istore 4, 2) := by decide +kernel
theorem dX6_kindFor_111 : decode cX6_kindFor 111 = .ok (.iload 8, 2) := by decide +kernel
theorem dX6_kindFor_113 : decode cX6_kindFor 113 = .ok (.istore 5, 2) := by decide +kernel
theorem dX6_kindFor_115 : decode cX6_kindFor 115 = .ok (.iinc 6 1, 3) := by decide +kernel
theorem dX6_kindFor_118 : decode cX6_kindFor 118 = .ok (.goto (-85), 3) := by decide +kernel
theorem dX6_kindFor_121 : decode cX6_kindFor 121 = .ok (.aload_n 0, 1) := by decide +kernel
theorem dX6_kindFor_122 : decode cX6_kindFor 122 = .ok (.getfield 9, 3) := by decide +kernel
theorem dX6_kindFor_125 : decode cX6_kindFor 125 = .ok (.iload_n 1, 1) := by decide +kernel
theorem dX6_kindFor_126 : decode cX6_kindFor 126 = .ok (.iconst 0, 1) := by decide +kernel
theorem dX6_kindFor_127 : decode cX6_kindFor 127 = .ok (.invokestatic 79, 3) := by decide +kernel
theorem dX6_kindFor_130 : decode cX6_kindFor 130 = .ok (.iload_n 2, 1) := by decide +kernel
theorem dX6_kindFor_131 : decode cX6_kindFor 131 = .ok (.iastore, 1) := by decide +kernel
theorem dX6_kindFor_132 : decode cX6_kindFor 132 = .ok (.iload_n 3, 1) := by decide +kernel
theorem dX6_kindFor_133 : decode cX6_kindFor 133 = .ok (.ireturn, 1) := by decide +kernel
theorem dX6_areTogether_0 : decode cX6_areTogether 0 = .ok (.iconst 0, 1) := by decide +kernel
theorem dX6_areTogether_1 : decode cX6_areTogether 1 = .ok (.istore_n 3, 1) := by decide +kernel
theorem dX6_areTogether_2 : decode cX6_areTogether 2 = .ok (.iconst 0, 1) := by decide +kernel
theorem dX6_areTogether_3 : decode cX6_areTogether 3 = .ok (.istore 4, 2) := by decide +kernel
theorem dX6_areTogether_5 : decode cX6_areTogether 5 = .ok (.iload 4, 2) := by decide +kernel
theorem dX6_areTogether_7 : decode cX6_areTogether 7 = .ok (.aload_n 0, 1) := by decide +kernel
theorem dX6_areTogether_8 : decode cX6_areTogether 8 = .ok (.getfield 9, 3) := by decide +kernel
theorem dX6_areTogether_11 : decode cX6_areTogether 11 = .ok (.iconst 1, 1) := by decide +kernel
theorem dX6_areTogether_12 : decode cX6_areTogether 12 = .ok (.iaload, 1) := by decide +kernel
theorem dX6_areTogether_13 : decode cX6_areTogether 13 = .ok (.if_icmp .ge 53, 3) := by decide +kernel
theorem dX6_areTogether_16 : decode cX6_areTogether 16 = .ok (.iload_n 3, 1) := by decide +kernel
theorem dX6_areTogether_17 : decode cX6_areTogether 17 = .ok (.ifCond .ne 37, 3) := by decide +kernel
theorem dX6_areTogether_20 : decode cX6_areTogether 20 = .ok (.aload_n 0, 1) := by decide +kernel
theorem dX6_areTogether_21 : decode cX6_areTogether 21 = .ok (.getfield 9, 3) := by decide +kernel
theorem dX6_areTogether_24 : decode cX6_areTogether 24 = .ok (.bipush 44, 2) := by decide +kernel
theorem dX6_areTogether_26 : decode cX6_areTogether 26 = .ok (.iload 4, 2) := by decide +kernel
theorem dX6_areTogether_28 : decode cX6_areTogether 28 = .ok (.iadd, 1) := by decide +kernel
theorem dX6_areTogether_29 : decode cX6_areTogether 29 = .ok (.iaload, 1) := by decide +kernel
theorem dX6_areTogether_30 : decode cX6_areTogether 30 = .ok (.iload_n 1, 1) := by decide +kernel
theorem dX6_areTogether_31 : decode cX6_areTogether 31 = .ok (.invokestatic 137, 3) := by decide +kernel
theorem dX6_areTogether_34 : decode cX6_areTogether 34 = .ok (.ifCond .eq 24, 3) := by decide +kernel
theorem dX6_areTogether_37 : decode cX6_areTogether 37 = .ok (.aload_n 0, 1) := by decide +kernel
theorem dX6_areTogether_38 : decode cX6_areTogether 38 = .ok (.getfield 9, 3) := by decide +kernel
theorem dX6_areTogether_41 : decode cX6_areTogether 41 = .ok (.bipush 44, 2) := by decide +kernel
theorem dX6_areTogether_43 : decode cX6_areTogether 43 = .ok (.iload 4, 2) := by decide +kernel
theorem dX6_areTogether_45 : decode cX6_areTogether 45 = .ok (.iadd, 1) := by decide +kernel
theorem dX6_areTogether_46 : decode cX6_areTogether 46 = .ok (.iaload, 1) := by decide +kernel
theorem dX6_areTogether_47 : decode cX6_areTogether 47 = .ok (.iload_n 2, 1) := by decide +kernel
theorem dX6_areTogether_48 : decode cX6_areTogether 48 = .ok (.invokestatic 137, 3) := by decide +kernel
theorem dX6_areTogether_51 : decode cX6_areTogether 51 = .ok (.ifCond .eq 7, 3) := by decide +kernel
theorem dX6_areTogether_54 : decode cX6_areTogether 54 = .ok (.iconst 1, 1) := by decide +kernel
theorem dX6_areTogether_55 : decode cX6_areTogether 55 = .ok (.goto 4, 3) := by decide +kernel
theorem dX6_areTogether_58 : decode cX6_areTogether 58 = .ok (.iconst 0, 1) := by decide +kernel
theorem dX6_areTogether_59 : decode cX6_areTogether 59 = .ok (.istore_n 3, 1) := by decide +kernel
theorem dX6_areTogether_60 : decode cX6_areTogether 60 = .ok (.iinc 4 1, 3) := by decide +kernel
theorem dX6_areTogether_63 : decode cX6_areTogether 63 = .ok (.goto (-58), 3) := by decide +kernel
theorem dX6_areTogether_66 : decode cX6_areTogether 66 = .ok (.iload_n 3, 1) := by decide +kernel
theorem dX6_areTogether_67 : decode cX6_areTogether 67 = .ok (.ireturn, 1) := by decide +kernel
theorem dX6_comesFor_0 : decode cX6_comesFor 0 = .ok (.iconst 0, 1) := by decide +kernel
theorem dX6_comesFor_1 : decode cX6_comesFor 1 = .ok (.istore_n 3, 1) := by decide +kernel
theorem dX6_comesFor_2 : decode cX6_comesFor 2 = .ok (.iload_n 3, 1) := by decide +kernel
theorem dX6_comesFor_3 : decode cX6_comesFor 3 = .ok (.aload_n 0, 1) := by decide +kernel
theorem dX6_comesFor_4 : decode cX6_comesFor 4 = .ok (.getfield 9, 3) := by decide +kernel
theorem dX6_comesFor_7 : decode cX6_comesFor 7 = .ok (.iconst 1, 1) := by decide +kernel
theorem dX6_comesFor_8 : decode cX6_comesFor 8 = .ok (.iaload, 1) := by decide +kernel
theorem dX6_comesFor_9 : decode cX6_comesFor 9 = .ok (.if_icmp .ge 90, 3) := by decide +kernel
theorem dX6_comesFor_12 : decode cX6_comesFor 12 = .ok (.aload_n 0, 1) := by decide +kernel
theorem dX6_comesFor_13 : decode cX6_comesFor 13 = .ok (.getfield 9, 3) := by decide +kernel
theorem dX6_comesFor_16 : decode cX6_comesFor 16 = .ok (.bipush 44, 2) := by decide +kernel
theorem dX6_comesFor_18 : decode cX6_comesFor 18 = .ok (.iload_n 3, 1) := by decide +kernel
theorem dX6_comesFor_19 : decode cX6_comesFor 19 = .ok (.iadd, 1) := by decide +kernel
theorem dX6_comesFor_20 : decode cX6_comesFor 20 = .ok (.iaload, 1) := by decide +kernel
theorem dX6_comesFor_21 : decode cX6_comesFor 21 = .ok (.istore 4, 2) := by decide +kernel
theorem dX6_comesFor_23 : decode cX6_comesFor 23 = .ok (.aload_n 0, 1) := by decide +kernel
theorem dX6_comesFor_24 : decode cX6_comesFor 24 = .ok (.getfield 9, 3) := by decide +kernel
theorem dX6_comesFor_27 : decode cX6_comesFor 27 = .ok (.bipush 44, 2) := by decide +kernel
theorem dX6_comesFor_29 : decode cX6_comesFor 29 = .ok (.iload_n 3, 1) := by decide +kernel
theorem dX6_comesFor_30 : decode cX6_comesFor 30 = .ok (.iadd, 1) := by decide +kernel
theorem dX6_comesFor_31 : decode cX6_comesFor 31 = .ok (.iload 4, 2) := by decide +kernel
theorem dX6_comesFor_33 : decode cX6_comesFor 33 = .ok (.iload_n 2, 1) := by decide +kernel
theorem dX6_comesFor_34 : decode cX6_comesFor 34 = .ok (.invokestatic 137, 3) := by decide +kernel
theorem dX6_comesFor_37 : decode cX6_comesFor 37 = .ok (.ifCond .eq 18, 3) := by decide +kernel
theorem dX6_comesFor_40 : decode cX6_comesFor 40 = .ok (.iload 4, 2) := by decide +kernel
theorem dX6_comesFor_42 : decode cX6_comesFor 42 = .ok (.iconst 1, 1) := by decide +kernel
theorem dX6_comesFor_43 : decode cX6_comesFor 43 = .ok (.iload_n 2, 1) := by decide +kernel
theorem dX6_comesFor_44 : decode cX6_comesFor 44 = .ok (.ishl, 1) := by decide +kernel
theorem dX6_comesFor_45 : decode cX6_comesFor 45 = .ok (.iconst (-1), 1) := by decide +kernel
theorem dX6_comesFor_46 : decode cX6_comesFor 46 = .ok (.ixor, 1) := by decide +kernel
theorem dX6_comesFor_47 : decode cX6_comesFor 47 = .ok (.iand, 1) := by decide +kernel
theorem dX6_comesFor_48 : decode cX6_comesFor 48 = .ok (.iconst 1, 1) := by decide +kernel
theorem dX6_comesFor_49 : decode cX6_comesFor 49 = .ok (.iload_n 1, 1) := by decide +kernel
theorem dX6_comesFor_50 : decode cX6_comesFor 50 = .ok (.ishl, 1) := by decide +kernel
theorem dX6_comesFor_51 : decode cX6_comesFor 51 = .ok (.ior, 1) := by decide +kernel
theorem dX6_comesFor_52 : decode cX6_comesFor 52 = .ok (.goto 5, 3) := by decide +kernel
theorem dX6_comesFor_55 : decode cX6_comesFor 55 = .ok (.iload 4, 2) := by decide +kernel
theorem dX6_comesFor_57 : decode cX6_comesFor 57 = .ok (.iastore, 1) := by decide +kernel
theorem dX6_comesFor_58 : decode cX6_comesFor 58 = .ok (.aload_n 0, 1) := by decide +kernel
theorem dX6_comesFor_59 : decode cX6_comesFor 59 = .ok (.getfield 9, 3) := by decide +kernel
theorem dX6_comesFor_62 : decode cX6_comesFor 62 = .ok (.bipush 56, 2) := by decide +kernel
theorem dX6_comesFor_64 : decode cX6_comesFor 64 = .ok (.iload_n 3, 1) := by decide +kernel
theorem dX6_comesFor_65 : decode cX6_comesFor 65 = .ok (.iadd, 1) := by decide +kernel
theorem dX6_comesFor_66 : decode cX6_comesFor 66 = .ok (.aload_n 0, 1) := by decide +kernel
theorem dX6_comesFor_67 : decode cX6_comesFor 67 = .ok (.getfield 9, 3) := by decide +kernel
theorem dX6_comesFor_70 : decode cX6_comesFor 70 = .ok (.bipush 56, 2) := by decide +kernel
theorem dX6_comesFor_72 : decode cX6_comesFor 72 = .ok (.iload_n 3, 1) := by decide +kernel
theorem dX6_comesFor_73 : decode cX6_comesFor 73 = .ok (.iadd, 1) := by decide +kernel
theorem dX6_comesFor_74 : decode cX6_comesFor 74 = .ok (.iaload, 1) := by decide +kernel
theorem dX6_comesFor_75 : decode cX6_comesFor 75 = .ok (.iload_n 2, 1) := by decide +kernel
theorem dX6_comesFor_76 : decode cX6_comesFor 76 = .ok (.if_icmp .ne 7, 3) := by decide +kernel
theorem dX6_comesFor_79 : decode cX6_comesFor 79 = .ok (.iload_n 1, 1) := by decide +kernel
theorem dX6_comesFor_80 : decode cX6_comesFor 80 = .ok (.goto 12, 3) := by decide +kernel
theorem dX6_comesFor_83 : decode cX6_comesFor 83 = .ok (.aload_n 0, 1) := by decide +kernel
theorem dX6_comesFor_84 : decode cX6_comesFor 84 = .ok (.getfield 9, 3) := by decide +kernel
theorem dX6_comesFor_87 : decode cX6_comesFor 87 = .ok (.bipush 56, 2) := by decide +kernel
theorem dX6_comesFor_89 : decode cX6_comesFor 89 = .ok (.iload_n 3, 1) := by decide +kernel
theorem dX6_comesFor_90 : decode cX6_comesFor 90 = .ok (.iadd, 1) := by decide +kernel
theorem dX6_comesFor_91 : decode cX6_comesFor 91 = .ok (.iaload, 1) := by decide +kernel
theorem dX6_comesFor_92 : decode cX6_comesFor 92 = .ok (.iastore, 1) := by decide +kernel
theorem dX6_comesFor_93 : decode cX6_comesFor 93 = .ok (.iinc 3 1, 3) := by decide +kernel
theorem dX6_comesFor_96 : decode cX6_comesFor 96 = .ok (.goto (-94), 3) := by decide +kernel
theorem dX6_comesFor_99 : decode cX6_comesFor 99 = .ok (.return_, 1) := by decide +kernel
theorem dX6_mayor_0 : decode cX6_mayor 0 = .ok (.aload_n 0, 1) := by decide +kernel
theorem dX6_mayor_1 : decode cX6_mayor 1 = .ok (.iload_n 1, 1) := by decide +kernel
theorem dX6_mayor_2 : decode cX6_mayor 2 = .ok (.invokevirtual 110, 3) := by decide +kernel
theorem dX6_mayor_5 : decode cX6_mayor 5 = .ok (.ifCond .ne 10, 3) := by decide +kernel
theorem dX6_mayor_8 : decode cX6_mayor 8 = .ok (.aload_n 0, 1) := by decide +kernel
theorem dX6_mayor_9 : decode cX6_mayor 9 = .ok (.ldc 70, 2) := by decide +kernel
theorem dX6_mayor_11 : decode cX6_mayor 11 = .ok (.invokevirtual 87, 3) := by decide +kernel
theorem dX6_mayor_14 : decode cX6_mayor 14 = .ok (.ireturn, 1) := by decide +kernel
theorem dX6_mayor_15 : decode cX6_mayor 15 = .ok (.aload_n 0, 1) := by decide +kernel
theorem dX6_mayor_16 : decode cX6_mayor 16 = .ok (.getfield 9, 3) := by decide +kernel
theorem dX6_mayor_19 : decode cX6_mayor 19 = .ok (.aload_n 0, 1) := by decide +kernel
theorem dX6_mayor_20 : decode cX6_mayor 20 = .ok (.getfield 16, 3) := by decide +kernel
theorem dX6_mayor_23 : decode cX6_mayor 23 = .ok (.invokestatic 71, 3) := by decide +kernel
theorem dX6_mayor_26 : decode cX6_mayor 26 = .ok (.iconst (-1), 1) := by decide +kernel
theorem dX6_mayor_27 : decode cX6_mayor 27 = .ok (.istore_n 2, 1) := by decide +kernel
theorem dX6_mayor_28 : decode cX6_mayor 28 = .ok (.ldc 178, 2) := by decide +kernel
theorem dX6_mayor_30 : decode cX6_mayor 30 = .ok (.istore_n 3, 1) := by decide +kernel
theorem dX6_mayor_31 : decode cX6_mayor 31 = .ok (.iconst 0, 1) := by decide +kernel
theorem dX6_mayor_32 : decode cX6_mayor 32 = .ok (.istore 4, 2) := by decide +kernel
theorem dX6_mayor_34 : decode cX6_mayor 34 = .ok (.iload 4, 2) := by decide +kernel
theorem dX6_mayor_36 : decode cX6_mayor 36 = .ok (.aload_n 0, 1) := by decide +kernel
theorem dX6_mayor_37 : decode cX6_mayor 37 = .ok (.getfield 9, 3) := by decide +kernel
theorem dX6_mayor_40 : decode cX6_mayor 40 = .ok (.iconst 0, 1) := by decide +kernel
theorem dX6_mayor_41 : decode cX6_mayor 41 = .ok (.iaload, 1) := by decide +kernel
theorem dX6_mayor_42 : decode cX6_mayor 42 = .ok (.if_icmp .ge 86, 3) := by decide +kernel
theorem dX6_mayor_45 : decode cX6_mayor 45 = .ok (.iload 4, 2) := by decide +kernel
theorem dX6_mayor_47 : decode cX6_mayor 47 = .ok (.iload_n 1, 1) := by decide +kernel
theorem dX6_mayor_48 : decode cX6_mayor 48 = .ok (.if_icmp .eq 74, 3) := by decide +kernel
theorem dX6_mayor_51 : decode cX6_mayor 51 = .ok (.aload_n 0, 1) := by decide +kernel
theorem dX6_mayor_52 : decode cX6_mayor 52 = .ok (.iload_n 1, 1) := by decide +kernel
theorem dX6_mayor_53 : decode cX6_mayor 53 = .ok (.iload 4, 2) := by decide +kernel
theorem dX6_mayor_55 : decode cX6_mayor 55 = .ok (.invokevirtual 213, 3) := by decide +kernel
theorem dX6_mayor_58 : decode cX6_mayor 58 = .ok (.ifCond .ne 64, 3) := by decide +kernel
theorem dX6_mayor_61 : decode cX6_mayor 61 = .ok (.aload_n 0, 1) := by decide +kernel
theorem dX6_mayor_62 : decode cX6_mayor 62 = .ok (.iload_n 1, 1) := by decide +kernel
theorem dX6_mayor_63 : decode cX6_mayor 63 = .ok (.iload 4, 2) := by decide +kernel
theorem dX6_mayor_65 : decode cX6_mayor 65 = .ok (.invokevirtual 216, 3) := by decide +kernel
theorem dX6_mayor_68 : decode cX6_mayor 68 = .ok (.aload_n 0, 1) := by decide +kernel
theorem dX6_mayor_69 : decode cX6_mayor 69 = .ok (.invokevirtual 192, 3) := by decide +kernel
theorem dX6_mayor_72 : decode cX6_mayor 72 = .ok (.ifCond .eq 15, 3) := by decide +kernel
theorem dX6_mayor_75 : decode cX6_mayor 75 = .ok (.aload_n 0, 1) := by decide +kernel
theorem dX6_mayor_76 : decode cX6_mayor 76 = .ok (.aload_n 0, 1) := by decide +kernel
theorem dX6_mayor_77 : decode cX6_mayor 77 = .ok (.invokevirtual 196, 3) := by decide +kernel
theorem dX6_mayor_80 : decode cX6_mayor 80 = .ok (.iconst 0, 1) := by decide +kernel
theorem dX6_mayor_81 : decode cX6_mayor 81 = .ok (.invokevirtual 199, 3) := by decide +kernel
theorem dX6_mayor_84 : decode cX6_mayor 84 = .ok (.goto 5, 3) := by decide +kernel
theorem dX6_mayor_87 : decode cX6_mayor 87 = .ok (.ldc 178, 2) := by decide +kernel
theorem dX6_mayor_89 : decode cX6_mayor 89 = .ok (.istore 5, 2) := by decide +kernel
theorem dX6_mayor_91 : decode cX6_mayor 91 = .ok (.iload 5, 2) := by decide +kernel
theorem dX6_mayor_93 : decode cX6_mayor 93 = .ok (.iload_n 3, 1) := by decide +kernel
theorem dX6_mayor_94 : decode cX6_mayor 94 = .ok (.if_icmp .ge 8, 3) := by decide +kernel
theorem dX6_mayor_97 : decode cX6_mayor 97 = .ok (.iload 4, 2) := by decide +kernel
theorem dX6_mayor_99 : decode cX6_mayor 99 = .ok (.goto 4, 3) := by decide +kernel
theorem dX6_mayor_102 : decode cX6_mayor 102 = .ok (.iload_n 2, 1) := by decide +kernel
theorem dX6_mayor_103 : decode cX6_mayor 103 = .ok (.istore_n 2, 1) := by decide +kernel
theorem dX6_mayor_104 : decode cX6_mayor 104 = .ok (.iload_n 3, 1) := by decide +kernel
theorem dX6_mayor_105 : decode cX6_mayor 105 = .ok (.iload 5, 2) := by decide +kernel
theorem dX6_mayor_107 : decode cX6_mayor 107 = .ok (.invokestatic 183, 3) := by decide +kernel
theorem dX6_mayor_110 : decode cX6_mayor 110 = .ok (.istore_n 3, 1) := by decide +kernel
theorem dX6_mayor_111 : decode cX6_mayor 111 = .ok (.aload_n 0, 1) := by decide +kernel
theorem dX6_mayor_112 : decode cX6_mayor 112 = .ok (.getfield 16, 3) := by decide +kernel
theorem dX6_mayor_115 : decode cX6_mayor 115 = .ok (.aload_n 0, 1) := by decide +kernel
theorem dX6_mayor_116 : decode cX6_mayor 116 = .ok (.getfield 9, 3) := by decide +kernel
theorem dX6_mayor_119 : decode cX6_mayor 119 = .ok (.invokestatic 71, 3) := by decide +kernel
theorem dX6_mayor_122 : decode cX6_mayor 122 = .ok (.iinc 4 1, 3) := by decide +kernel
theorem dX6_mayor_125 : decode cX6_mayor 125 = .ok (.goto (-91), 3) := by decide +kernel
theorem dX6_mayor_128 : decode cX6_mayor 128 = .ok (.iload_n 2, 1) := by decide +kernel
theorem dX6_mayor_129 : decode cX6_mayor 129 = .ok (.ifCond .ge 12, 3) := by decide +kernel
theorem dX6_mayor_132 : decode cX6_mayor 132 = .ok (.aload_n 0, 1) := by decide +kernel
theorem dX6_mayor_133 : decode cX6_mayor 133 = .ok (.ldc 205, 2) := by decide +kernel
theorem dX6_mayor_135 : decode cX6_mayor 135 = .ok (.invokevirtual 87, 3) := by decide +kernel
theorem dX6_mayor_138 : decode cX6_mayor 138 = .ok (.goto 4, 3) := by decide +kernel
theorem dX6_mayor_141 : decode cX6_mayor 141 = .ok (.iload_n 2, 1) := by decide +kernel
theorem dX6_mayor_142 : decode cX6_mayor 142 = .ok (.ireturn, 1) := by decide +kernel
theorem dX6_leave_0 : decode cX6_leave 0 = .ok (.iload_n 1, 1) := by decide +kernel
theorem dX6_leave_1 : decode cX6_leave 1 = .ok (.iconst 0, 1) := by decide +kernel
theorem dX6_leave_2 : decode cX6_leave 2 = .ok (.bipush 99, 2) := by decide +kernel
theorem dX6_leave_4 : decode cX6_leave 4 = .ok (.invokestatic 75, 3) := by decide +kernel
theorem dX6_leave_7 : decode cX6_leave 7 = .ok (.ifCond .ne 10, 3) := by decide +kernel
theorem dX6_leave_10 : decode cX6_leave 10 = .ok (.aload_n 0, 1) := by decide +kernel
theorem dX6_leave_11 : decode cX6_leave 11 = .ok (.ldc 70, 2) := by decide +kernel
theorem dX6_leave_13 : decode cX6_leave 13 = .ok (.invokevirtual 87, 3) := by decide +kernel
theorem dX6_leave_16 : decode cX6_leave 16 = .ok (.ireturn, 1) := by decide +kernel
theorem dX6_leave_17 : decode cX6_leave 17 = .ok (.iconst 0, 1) := by decide +kernel
theorem dX6_leave_18 : decode cX6_leave 18 = .ok (.istore_n 2, 1) := by decide +kernel
theorem dX6_leave_19 : decode cX6_leave 19 = .ok (.iload_n 2, 1) := by decide +kernel
theorem dX6_leave_20 : decode cX6_leave 20 = .ok (.sipush 1053, 3) := by decide +kernel
theorem dX6_leave_23 : decode cX6_leave 23 = .ok (.if_icmp .ge 17, 3) := by decide +kernel
theorem dX6_leave_26 : decode cX6_leave 26 = .ok (.aload_n 0, 1) := by decide +kernel
theorem dX6_leave_27 : decode cX6_leave 27 = .ok (.getfield 29, 3) := by decide +kernel
theorem dX6_leave_30 : decode cX6_leave 30 = .ok (.iload_n 2, 1) := by decide +kernel
theorem dX6_leave_31 : decode cX6_leave 31 = .ok (.ldc 178, 2) := by decide +kernel
theorem dX6_leave_33 : decode cX6_leave 33 = .ok (.iastore, 1) := by decide +kernel
theorem dX6_leave_34 : decode cX6_leave 34 = .ok (.iinc 2 1, 3) := by decide +kernel
theorem dX6_leave_37 : decode cX6_leave 37 = .ok (.goto (-18), 3) := by decide +kernel
theorem dX6_leave_40 : decode cX6_leave 40 = .ok (.aload_n 0, 1) := by decide +kernel
theorem dX6_leave_41 : decode cX6_leave 41 = .ok (.getfield 29, 3) := by decide +kernel
theorem dX6_leave_44 : decode cX6_leave 44 = .ok (.aload_n 0, 1) := by decide +kernel
theorem dX6_leave_45 : decode cX6_leave 45 = .ok (.invokevirtual 186, 3) := by decide +kernel
theorem dX6_leave_48 : decode cX6_leave 48 = .ok (.iconst 0, 1) := by decide +kernel
theorem dX6_leave_49 : decode cX6_leave 49 = .ok (.iastore, 1) := by decide +kernel
theorem dX6_leave_50 : decode cX6_leave 50 = .ok (.iconst 0, 1) := by decide +kernel
theorem dX6_leave_51 : decode cX6_leave 51 = .ok (.istore_n 2, 1) := by decide +kernel
theorem dX6_leave_52 : decode cX6_leave 52 = .ok (.iload_n 2, 1) := by decide +kernel
theorem dX6_leave_53 : decode cX6_leave 53 = .ok (.aload_n 0, 1) := by decide +kernel
theorem dX6_leave_54 : decode cX6_leave 54 = .ok (.getfield 9, 3) := by decide +kernel
theorem dX6_leave_57 : decode cX6_leave 57 = .ok (.iconst 1, 1) := by decide +kernel
theorem dX6_leave_58 : decode cX6_leave 58 = .ok (.iaload, 1) := by decide +kernel
theorem dX6_leave_59 : decode cX6_leave 59 = .ok (.if_icmp .ge 169, 3) := by decide +kernel
theorem dX6_leave_62 : decode cX6_leave 62 = .ok (.iload_n 2, 1) := by decide +kernel
theorem dX6_leave_63 : decode cX6_leave 63 = .ok (.istore_n 3, 1) := by decide +kernel
theorem dX6_leave_64 : decode cX6_leave 64 = .ok (.iload_n 3, 1) := by decide +kernel
theorem dX6_leave_65 : decode cX6_leave 65 = .ok (.ifCond .lt 157, 3) := by decide +kernel
theorem dX6_leave_68 : decode cX6_leave 68 = .ok (.aload_n 0, 1) := by decide +kernel
theorem dX6_leave_69 : decode cX6_leave 69 = .ok (.iload_n 2, 1) := by decide +kernel
theorem dX6_leave_70 : decode cX6_leave 70 = .ok (.invokevirtual 146, 3) := by decide +kernel
theorem dX6_leave_73 : decode cX6_leave 73 = .ok (.ifCond .ne 149, 3) := by decide +kernel
theorem dX6_leave_76 : decode cX6_leave 76 = .ok (.iconst 0, 1) := by decide +kernel
theorem dX6_leave_77 : decode cX6_leave 77 = .ok (.istore 4, 2) := by decide +kernel
theorem dX6_leave_79 : decode cX6_leave 79 = .ok (.iload 4, 2) := by decide +kernel
theorem dX6_leave_81 : decode cX6_leave 81 = .ok (.bipush 81, 2) := by decide +kernel
theorem dX6_leave_83 : decode cX6_leave 83 = .ok (.if_icmp .ge 133, 3) := by decide +kernel
theorem dX6_leave_86 : decode cX6_leave 86 = .ok (.aload_n 0, 1) := by decide +kernel
theorem dX6_leave_87 : decode cX6_leave 87 = .ok (.iload 4, 2) := by decide +kernel
theorem dX6_leave_89 : decode cX6_leave 89 = .ok (.invokestatic 169, 3) := by decide +kernel
theorem dX6_leave_92 : decode cX6_leave 92 = .ok (.iload 4, 2) := by decide +kernel
theorem dX6_leave_94 : decode cX6_leave 94 = .ok (.invokestatic 172, 3) := by decide +kernel
theorem dX6_leave_97 : decode cX6_leave 97 = .ok (.invokevirtual 175, 3) := by decide +kernel
theorem dX6_leave_100 : decode cX6_leave 100 = .ok (.ifCond .eq 25, 3) := by decide +kernel
theorem dX6_leave_103 : decode cX6_leave 103 = .ok (.aload_n 0, 1) := by decide +kernel
theorem dX6_leave_104 : decode cX6_leave 104 = .ok (.iload 4, 2) := by decide +kernel
theorem dX6_leave_106 : decode cX6_leave 106 = .ok (.invokestatic 169, 3) := by decide +kernel
theorem dX6_leave_109 : decode cX6_leave 109 = .ok (.iload 4, 2) := by decide +kernel
theorem dX6_leave_111 : decode cX6_leave 111 = .ok (.invokestatic 172, 3) := by decide +kernel
theorem dX6_leave_114 : decode cX6_leave 114 = .ok (.iload_n 2, 1) := by decide +kernel
theorem dX6_leave_115 : decode cX6_leave 115 = .ok (.invokevirtual 166, 3) := by decide +kernel
theorem dX6_leave_118 : decode cX6_leave 118 = .ok (.ifCond .eq 7, 3) := by decide +kernel
theorem dX6_leave_121 : decode cX6_leave 121 = .ok (.iconst 1, 1) := by decide +kernel
theorem dX6_leave_122 : decode cX6_leave 122 = .ok (.goto 4, 3) := by decide +kernel
theorem dX6_leave_125 : decode cX6_leave 125 = .ok (.iconst 0, 1) := by decide +kernel
theorem dX6_leave_126 : decode cX6_leave 126 = .ok (.istore 5, 2) := by decide +kernel
theorem dX6_leave_128 : decode cX6_leave 128 = .ok (.aload_n 0, 1) := by decide +kernel
theorem dX6_leave_129 : decode cX6_leave 129 = .ok (.getfield 29, 3) := by decide +kernel
theorem dX6_leave_132 : decode cX6_leave 132 = .ok (.iload_n 3, 1) := by decide +kernel
theorem dX6_leave_133 : decode cX6_leave 133 = .ok (.iconst 1, 1) := by decide +kernel
theorem dX6_leave_134 : decode cX6_leave 134 = .ok (.iadd, 1) := by decide +kernel
theorem dX6_leave_135 : decode cX6_leave 135 = .ok (.bipush 81, 2) := by decide +kernel
theorem dX6_leave_137 : decode cX6_leave 137 = .ok (.imul, 1) := by decide +kernel
theorem dX6_leave_138 : decode cX6_leave 138 = .ok (.iload 4, 2) := by decide +kernel
theorem dX6_leave_140 : decode cX6_leave 140 = .ok (.iadd, 1) := by decide +kernel
theorem dX6_leave_141 : decode cX6_leave 141 = .ok (.iaload, 1) := by decide +kernel
theorem dX6_leave_142 : decode cX6_leave 142 = .ok (.istore 6, 2) := by decide +kernel
theorem dX6_leave_144 : decode cX6_leave 144 = .ok (.iconst 0, 1) := by decide +kernel
theorem dX6_leave_145 : decode cX6_leave 145 = .ok (.istore 7, 2) := by decide +kernel
theorem dX6_leave_147 : decode cX6_leave 147 = .ok (.iload 7, 2) := by decide +kernel
theorem dX6_leave_149 : decode cX6_leave 149 = .ok (.bipush 81, 2) := by decide +kernel
theorem dX6_leave_151 : decode cX6_leave 151 = .ok (.if_icmp .ge 43, 3) := by decide +kernel
theorem dX6_leave_154 : decode cX6_leave 154 = .ok (.iload 5, 2) := by decide +kernel
theorem dX6_leave_156 : decode cX6_leave 156 = .ok (.ifCond .eq 38, 3) := by decide +kernel
theorem dX6_leave_159 : decode cX6_leave 159 = .ok (.iload 6, 2) := by decide +kernel
theorem dX6_leave_161 : decode cX6_leave 161 = .ok (.aload_n 0, 1) := by decide +kernel
