theorem dX5_init_0 : decode cX5_init 0 = .ok (.aload_n 0, 1) := by decide +kernel
theorem dX5_init_1 : decode cX5_init 1 = .ok (.invokespecial 1, 3) := by decide +kernel
theorem dX5_init_4 : decode cX5_init 4 = .ok (.aload_n 0, 1) := by decide +kernel
theorem dX5_init_5 : decode cX5_init 5 = .ok (.new 7, 3) := by decide +kernel
theorem dX5_init_8 : decode cX5_init 8 = .ok (.dup, 1) := by decide +kernel
theorem dX5_init_9 : decode cX5_init 9 = .ok (.invokespecial 9, 3) := by decide +kernel
theorem dX5_init_12 : decode cX5_init 12 = .ok (.putfield 10, 3) := by decide +kernel
theorem dX5_init_15 : decode cX5_init 15 = .ok (.aload_n 0, 1) := by decide +kernel
theorem dX5_init_16 : decode cX5_init 16 = .ok (.new 7, 3) := by decide +kernel
theorem dX5_init_19 : decode cX5_init 19 = .ok (.dup, 1) := by decide +kernel
theorem dX5_init_20 : decode cX5_init 20 = .ok (.invokespecial 9, 3) := by decide +kernel
theorem dX5_init_23 : decode cX5_init 23 = .ok (.putfield 16, 3) := by decide +kernel
theorem dX5_init_26 : decode cX5_init 26 = .ok (.aload_n 0, 1) := by decide +kernel
theorem dX5_init_27 : decode cX5_init 27 = .ok (.new 7, 3) := by decide +kernel
theorem dX5_init_30 : decode cX5_init 30 = .ok (.dup, 1) := by decide +kernel
theorem dX5_init_31 : decode cX5_init 31 = .ok (.invokespecial 9, 3) := by decide +kernel
theorem dX5_init_34 : decode cX5_init 34 = .ok (.putfield 19, 3) := by decide +kernel
theorem dX5_init_37 : decode cX5_init 37 = .ok (.aload_n 0, 1) := by decide +kernel
theorem dX5_init_38 : decode cX5_init 38 = .ok (.new 22, 3) := by decide +kernel
theorem dX5_init_41 : decode cX5_init 41 = .ok (.dup, 1) := by decide +kernel
theorem dX5_init_42 : decode cX5_init 42 = .ok (.invokespecial 24, 3) := by decide +kernel
theorem dX5_init_45 : decode cX5_init 45 = .ok (.putfield 25, 3) := by decide +kernel
theorem dX5_init_48 : decode cX5_init 48 = .ok (.aload_n 0, 1) := by decide +kernel
theorem dX5_init_49 : decode cX5_init 49 = .ok (.new 29, 3) := by decide +kernel
theorem dX5_init_52 : decode cX5_init 52 = .ok (.dup, 1) := by decide +kernel
theorem dX5_init_53 : decode cX5_init 53 = .ok (.invokespecial 31, 3) := by decide +kernel
theorem dX5_init_56 : decode cX5_init 56 = .ok (.putfield 32, 3) := by decide +kernel
theorem dX5_init_59 : decode cX5_init 59 = .ok (.aload_n 0, 1) := by decide +kernel
theorem dX5_init_60 : decode cX5_init 60 = .ok (.iconst 4, 1) := by decide +kernel
theorem dX5_init_61 : decode cX5_init 61 = .ok (.anewarray 36, 3) := by decide +kernel
theorem dX5_init_64 : decode cX5_init 64 = .ok (.putfield 38, 3) := by decide +kernel
theorem dX5_init_67 : decode cX5_init 67 = .ok (.iconst 0, 1) := by decide +kernel
theorem dX5_init_68 : decode cX5_init 68 = .ok (.istore_n 1, 1) := by decide +kernel
theorem dX5_init_69 : decode cX5_init 69 = .ok (.iload_n 1, 1) := by decide +kernel
theorem dX5_init_70 : decode cX5_init 70 = .ok (.aload_n 0, 1) := by decide +kernel
theorem dX5_init_71 : decode cX5_init 71 = .ok (.getfield 38, 3) := by decide +kernel
theorem dX5_init_74 : decode cX5_init 74 = .ok (.arraylength, 1) := by decide +kernel
theorem dX5_init_75 : decode cX5_init 75 = .ok (.if_icmp .ge 22, 3) := by decide +kernel
theorem dX5_init_78 : decode cX5_init 78 = .ok (.aload_n 0, 1) := by decide +kernel
theorem dX5_init_79 : decode cX5_init 79 = .ok (.getfield 38, 3) := by decide +kernel
theorem dX5_init_82 : decode cX5_init 82 = .ok (.iload_n 1, 1) := by decide +kernel
theorem dX5_init_83 : decode cX5_init 83 = .ok (.new 36, 3) := by decide +kernel
theorem dX5_init_86 : decode cX5_init 86 = .ok (.dup, 1) := by decide +kernel
theorem dX5_init_87 : decode cX5_init 87 = .ok (.invokespecial 42, 3) := by decide +kernel
theorem dX5_init_90 : decode cX5_init 90 = .ok (.aastore, 1) := by decide +kernel
theorem dX5_init_91 : decode cX5_init 91 = .ok (.iinc 1 1, 3) := by decide +kernel
theorem dX5_init_94 : decode cX5_init 94 = .ok (.goto (-25), 3) := by decide +kernel
theorem dX5_init_97 : decode cX5_init 97 = .ok (.aload_n 0, 1) := by decide +kernel
theorem dX5_init_98 : decode cX5_init 98 = .ok (.bipush 7, 2) := by decide +kernel
theorem dX5_init_100 : decode cX5_init 100 = .ok (.newarray .int, 2) := by decide +kernel
theorem dX5_init_102 : decode cX5_init 102 = .ok (.putfield 43, 3) := by decide +kernel
theorem dX5_init_105 : decode cX5_init 105 = .ok (.aload_n 0, 1) := by decide +kernel
theorem dX5_init_106 : decode cX5_init 106 = .ok (.iconst 0, 1) := by decide +kernel
theorem dX5_init_107 : decode cX5_init 107 = .ok (.putfield 47, 3) := by decide +kernel
theorem dX5_init_110 : decode cX5_init 110 = .ok (.return_, 1) := by decide +kernel
theorem dX5_doll_0 : decode cX5_doll 0 = .ok (.iload_n 1, 1) := by decide +kernel
theorem dX5_doll_1 : decode cX5_doll 1 = .ok (.invokestatic 51, 3) := by decide +kernel
theorem dX5_doll_4 : decode cX5_doll 4 = .ok (.ifCond .ne 10, 3) := by decide +kernel
theorem dX5_doll_7 : decode cX5_doll 7 = .ok (.aload_n 0, 1) := by decide +kernel
theorem dX5_doll_8 : decode cX5_doll 8 = .ok (.ldc 57, 2) := by decide +kernel
theorem dX5_doll_10 : decode cX5_doll 10 = .ok (.invokevirtual 58, 3) := by decide +kernel
theorem dX5_doll_13 : decode cX5_doll 13 = .ok (.ireturn, 1) := by decide +kernel
theorem dX5_doll_14 : decode cX5_doll 14 = .ok (.aload_n 0, 1) := by decide +kernel
theorem dX5_doll_15 : decode cX5_doll 15 = .ok (.getfield 10, 3) := by decide +kernel
theorem dX5_doll_18 : decode cX5_doll 18 = .ok (.getfield 62, 3) := by decide +kernel
theorem dX5_doll_21 : decode cX5_doll 21 = .ok (.bipush 8, 2) := by decide +kernel
theorem dX5_doll_23 : decode cX5_doll 23 = .ok (.if_icmp .lt 10, 3) := by decide +kernel
theorem dX5_doll_26 : decode cX5_doll 26 = .ok (.aload_n 0, 1) := by decide +kernel
theorem dX5_doll_27 : decode cX5_doll 27 = .ok (.ldc 66, 2) := by decide +kernel
theorem dX5_doll_29 : decode cX5_doll 29 = .ok (.invokevirtual 58, 3) := by decide +kernel
theorem dX5_doll_32 : decode cX5_doll 32 = .ok (.ireturn, 1) := by decide +kernel
theorem dX5_doll_33 : decode cX5_doll 33 = .ok (.aload_n 0, 1) := by decide +kernel
theorem dX5_doll_34 : decode cX5_doll 34 = .ok (.getfield 10, 3) := by decide +kernel
theorem dX5_doll_37 : decode cX5_doll 37 = .ok (.iload_n 1, 1) := by decide +kernel
theorem dX5_doll_38 : decode cX5_doll 38 = .ok (.invokevirtual 67, 3) := by decide +kernel
theorem dX5_doll_41 : decode cX5_doll 41 = .ok (.ireturn, 1) := by decide +kernel
theorem dX5_of_0 : decode cX5_of 0 = .ok (.aload_n 0, 1) := by decide +kernel
theorem dX5_of_1 : decode cX5_of 1 = .ok (.getfield 10, 3) := by decide +kernel
theorem dX5_of_4 : decode cX5_of 4 = .ok (.iload_n 1, 1) := by decide +kernel
theorem dX5_of_5 : decode cX5_of 5 = .ok (.invokevirtual 70, 3) := by decide +kernel
theorem dX5_of_8 : decode cX5_of 8 = .ok (.ifCond .ne 10, 3) := by decide +kernel
theorem dX5_of_11 : decode cX5_of 11 = .ok (.aload_n 0, 1) := by decide +kernel
theorem dX5_of_12 : decode cX5_of 12 = .ok (.ldc 57, 2) := by decide +kernel
theorem dX5_of_14 : decode cX5_of 14 = .ok (.invokevirtual 58, 3) := by decide +kernel
theorem dX5_of_17 : decode cX5_of 17 = .ok (.ireturn, 1) := by decide +kernel
theorem dX5_of_18 : decode cX5_of 18 = .ok (.iload_n 2, 1) := by decide +kernel
theorem dX5_of_19 : decode cX5_of 19 = .ok (.tableswitch 91 0 5 #[37, 46, 55, 64, 73, 82], 37) := by decide +kernel
theorem dX5_of_56 : decode cX5_of 56 = .ok (.aload_n 0, 1) := by decide +kernel
theorem dX5_of_57 : decode cX5_of 57 = .ok (.getfield 10, 3) := by decide +kernel
theorem dX5_of_60 : decode cX5_of 60 = .ok (.iload_n 1, 1) := by decide +kernel
theorem dX5_of_61 : decode cX5_of 61 = .ok (.invokevirtual 73, 3) := by decide +kernel
theorem dX5_of_64 : decode cX5_of 64 = .ok (.ireturn, 1) := by decide +kernel
theorem dX5_of_65 : decode cX5_of 65 = .ok (.aload_n 0, 1) := by decide +kernel
theorem dX5_of_66 : decode cX5_of 66 = .ok (.getfield 10, 3) := by decide +kernel
theorem dX5_of_69 : decode cX5_of 69 = .ok (.iload_n 1, 1) := by decide +kernel
theorem dX5_of_70 : decode cX5_of 70 = .ok (.invokevirtual 76, 3) := by decide +kernel
theorem dX5_of_73 : decode cX5_of 73 = .ok (.ireturn, 1) := by decide +kernel
theorem dX5_of_74 : decode cX5_of 74 = .ok (.aload_n 0, 1) := by decide +kernel
theorem dX5_of_75 : decode cX5_of 75 = .ok (.getfield 10, 3) := by decide +kernel
theorem dX5_of_78 : decode cX5_of 78 = .ok (.iload_n 1, 1) := by decide +kernel
theorem dX5_of_79 : decode cX5_of 79 = .ok (.invokevirtual 79, 3) := by decide +kernel
theorem dX5_of_82 : decode cX5_of 82 = .ok (.ireturn, 1) := by decide +kernel
theorem dX5_of_83 : decode cX5_of 83 = .ok (.aload_n 0, 1) := by decide +kernel
theorem dX5_of_84 : decode cX5_of 84 = .ok (.getfield 10, 3) := by decide +kernel
theorem dX5_of_87 : decode cX5_of 87 = .ok (.iload_n 1, 1) := by decide +kernel
theorem dX5_of_88 : decode cX5_of 88 = .ok (.invokevirtual 82, 3) := by decide +kernel
theorem dX5_of_91 : decode cX5_of 91 = .ok (.ireturn, 1) := by decide +kernel
theorem dX5_of_92 : decode cX5_of 92 = .ok (.aload_n 0, 1) := by decide +kernel
theorem dX5_of_93 : decode cX5_of 93 = .ok (.getfield 10, 3) := by decide +kernel
theorem dX5_of_96 : decode cX5_of 96 = .ok (.iload_n 1, 1) := by decide +kernel
theorem dX5_of_97 : decode cX5_of 97 = .ok (.invokevirtual 85, 3) := by decide +kernel
theorem dX5_of_100 : decode cX5_of 100 = .ok (.ireturn, 1) := by decide +kernel
theorem dX5_of_101 : decode cX5_of 101 = .ok (.aload_n 0, 1) := by decide +kernel
theorem dX5_of_102 : decode cX5_of 102 = .ok (.getfield 10, 3) := by decide +kernel
theorem dX5_of_105 : decode cX5_of 105 = .ok (.iload_n 1, 1) := by decide +kernel
theorem dX5_of_106 : decode cX5_of 106 = .ok (.invokevirtual 88, 3) := by decide +kernel
theorem dX5_of_109 : decode cX5_of 109 = .ok (.ireturn, 1) := by decide +kernel
theorem dX5_of_110 : decode cX5_of 110 = .ok (.aload_n 0, 1) := by decide +kernel
theorem dX5_of_111 : decode cX5_of 111 = .ok (.ldc 57, 2) := by decide +kernel
theorem dX5_of_113 : decode cX5_of 113 = .ok (.invokevirtual 58, 3) := by decide +kernel
theorem dX5_of_116 : decode cX5_of 116 = .ok (.ireturn, 1) := by decide +kernel
theorem dX5_change_0 : decode cX5_change 0 = .ok (.aload_n 0, 1) := by decide +kernel
theorem dX5_change_1 : decode cX5_change 1 = .ok (.getfield 10, 3) := by decide +kernel
theorem dX5_change_4 : decode cX5_change 4 = .ok (.iload_n 1, 1) := by decide +kernel
theorem dX5_change_5 : decode cX5_change 5 = .ok (.invokevirtual 70, 3) := by decide +kernel
theorem dX5_change_8 : decode cX5_change 8 = .ok (.ifCond .ne 10, 3) := by decide +kernel
theorem dX5_change_11 : decode cX5_change 11 = .ok (.aload_n 0, 1) := by decide +kernel
theorem dX5_change_12 : decode cX5_change 12 = .ok (.ldc 57, 2) := by decide +kernel
theorem dX5_change_14 : decode cX5_change 14 = .ok (.invokevirtual 58, 3) := by decide +kernel
theorem dX5_change_17 : decode cX5_change 17 = .ok (.ireturn, 1) := by decide +kernel
theorem dX5_change_18 : decode cX5_change 18 = .ok (.iload_n 2, 1) := by decide +kernel
theorem dX5_change_19 : decode cX5_change 19 = .ok (.ifCond .ne 32, 3) := by decide +kernel
theorem dX5_change_22 : decode cX5_change 22 = .ok (.iload_n 3, 1) := by decide +kernel
theorem dX5_change_23 : decode cX5_change 23 = .ok (.invokestatic 51, 3) := by decide +kernel
theorem dX5_change_26 : decode cX5_change 26 = .ok (.ifCond .eq 25, 3) := by decide +kernel
theorem dX5_change_29 : decode cX5_change 29 = .ok (.aload_n 0, 1) := by decide +kernel
theorem dX5_change_30 : decode cX5_change 30 = .ok (.getfield 10, 3) := by decide +kernel
theorem dX5_change_33 : decode cX5_change 33 = .ok (.iload_n 1, 1) := by decide +kernel
theorem dX5_change_34 : decode cX5_change 34 = .ok (.invokevirtual 73, 3) := by decide +kernel
theorem dX5_change_37 : decode cX5_change 37 = .ok (.istore 4, 2) := by decide +kernel
theorem dX5_change_39 : decode cX5_change 39 = .ok (.aload_n 0, 1) := by decide +kernel
theorem dX5_change_40 : decode cX5_change 40 = .ok (.getfield 10, 3) := by decide +kernel
theorem dX5_change_43 : decode cX5_change 43 = .ok (.iload_n 1, 1) := by decide +kernel
theorem dX5_change_44 : decode cX5_change 44 = .ok (.iload_n 3, 1) := by decide +kernel
theorem dX5_change_45 : decode cX5_change 45 = .ok (.invokevirtual 91, 3) := by decide +kernel
theorem dX5_change_48 : decode cX5_change 48 = .ok (.goto 45, 3) := by decide +kernel
theorem dX5_change_51 : decode cX5_change 51 = .ok (.iload_n 2, 1) := by decide +kernel
theorem dX5_change_52 : decode cX5_change 52 = .ok (.iconst 1, 1) := by decide +kernel
theorem dX5_change_53 : decode cX5_change 53 = .ok (.if_icmp .ne 32, 3) := by decide +kernel
theorem dX5_change_56 : decode cX5_change 56 = .ok (.iload_n 3, 1) := by decide +kernel
theorem dX5_change_57 : decode cX5_change 57 = .ok (.invokestatic 95, 3) := by decide +kernel
theorem dX5_change_60 : decode cX5_change 60 = .ok (.ifCond .eq 25, 3) := by decide +kernel
theorem dX5_change_63 : decode cX5_change 63 = .ok (.aload_n 0, 1) := by decide +kernel
theorem dX5_change_64 : decode cX5_change 64 = .ok (.getfield 10, 3) := by decide +kernel
theorem dX5_change_67 : decode cX5_change 67 = .ok (.iload_n 1, 1) := by decide +kernel
theorem dX5_change_68 : decode cX5_change 68 = .ok (.invokevirtual 76, 3) := by decide +kernel
theorem dX5_change_71 : decode cX5_change 71 = .ok (.istore 4, 2) := by decide +kernel
theorem dX5_change_73 : decode cX5_change 73 = .ok (.aload_n 0, 1) := by decide +kernel
theorem dX5_change_74 : decode cX5_change 74 = .ok (.getfield 10, 3) := by decide +kernel
theorem dX5_change_77 : decode cX5_change 77 = .ok (.iload_n 1, 1) := by decide +kernel
theorem dX5_change_78 : decode cX5_change 78 = .ok (.iload_n 3, 1) := by decide +kernel
theorem dX5_change_79 : decode cX5_change 79 = .ok (.invokevirtual 98, 3) := by decide +kernel
theorem dX5_change_82 : decode cX5_change 82 = .ok (.goto 11, 3) := by decide +kernel
theorem dX5_change_85 : decode cX5_change 85 = .ok (.aload_n 0, 1) := by decide +kernel
theorem dX5_change_86 : decode cX5_change 86 = .ok (.ldc 57, 2) := by decide +kernel
theorem dX5_change_88 : decode cX5_change 88 = .ok (.invokevirtual 58, 3) := by decide +kernel
theorem dX5_change_91 : decode cX5_change 91 = .ok (.istore 4, 2) := by decide +kernel
theorem dX5_change_93 : decode cX5_change 93 = .ok (.iload 4, 2) := by decide +kernel
theorem dX5_change_95 : decode cX5_change 95 = .ok (.ireturn, 1) := by decide +kernel
theorem dX5_hooks_0 : decode cX5_hooks 0 = .ok (.aload_n 0, 1) := by decide +kernel
theorem dX5_hooks_1 : decode cX5_hooks 1 = .ok (.getfield 10, 3) := by decide +kernel
theorem dX5_hooks_4 : decode cX5_hooks 4 = .ok (.iload_n 1, 1) := by decide +kernel
theorem dX5_hooks_5 : decode cX5_hooks 5 = .ok (.invokevirtual 70, 3) := by decide +kernel
theorem dX5_hooks_8 : decode cX5_hooks 8 = .ok (.ifCond .eq 19, 3) := by decide +kernel
theorem dX5_hooks_11 : decode cX5_hooks 11 = .ok (.aload_n 0, 1) := by decide +kernel
theorem dX5_hooks_12 : decode cX5_hooks 12 = .ok (.getfield 10, 3) := by decide +kernel
theorem dX5_hooks_15 : decode cX5_hooks 15 = .ok (.iload_n 2, 1) := by decide +kernel
theorem dX5_hooks_16 : decode cX5_hooks 16 = .ok (.invokevirtual 70, 3) := by decide +kernel
theorem dX5_hooks_19 : decode cX5_hooks 19 = .ok (.ifCond .eq 8, 3) := by decide +kernel
theorem dX5_hooks_22 : decode cX5_hooks 22 = .ok (.iload_n 1, 1) := by decide +kernel
theorem dX5_hooks_23 : decode cX5_hooks 23 = .ok (.iload_n 2, 1) := by decide +kernel
theorem dX5_hooks_24 : decode cX5_hooks 24 = .ok (.if_icmp .ne 10, 3) := by decide +kernel
theorem dX5_hooks_27 : decode cX5_hooks 27 = .ok (.aload_n 0, 1) := by decide +kernel
theorem dX5_hooks_28 : decode cX5_hooks 28 = .ok (.ldc 57, 2) := by decide +kernel
theorem dX5_hooks_30 : decode cX5_hooks 30 = .ok (.invokevirtual 58, 3) := by decide +kernel
theorem dX5_hooks_33 : decode cX5_hooks 33 = .ok (.ireturn, 1) := by decide +kernel
theorem dX5_hooks_34 : decode cX5_hooks 34 = .ok (.aload_n 0, 1) := by decide +kernel
theorem dX5_hooks_35 : decode cX5_hooks 35 = .ok (.getfield 10, 3) := by decide +kernel
theorem dX5_hooks_38 : decode cX5_hooks 38 = .ok (.iload_n 1, 1) := by decide +kernel
theorem dX5_hooks_39 : decode cX5_hooks 39 = .ok (.iload_n 2, 1) := by decide +kernel
theorem dX5_hooks_40 : decode cX5_hooks 40 = .ok (.invokevirtual 101, 3) := by decide +kernel
theorem dX5_hooks_43 : decode cX5_hooks 43 = .ok (.aload_n 0, 1) := by decide +kernel
theorem dX5_hooks_44 : decode cX5_hooks 44 = .ok (.getfield 10, 3) := by decide +kernel
theorem dX5_hooks_47 : decode cX5_hooks 47 = .ok (.iload_n 1, 1) := by decide +kernel
theorem dX5_hooks_48 : decode cX5_hooks 48 = .ok (.invokevirtual 88, 3) := by decide +kernel
theorem dX5_hooks_51 : decode cX5_hooks 51 = .ok (.ireturn, 1) := by decide +kernel
theorem dX5_leaves_0 : decode cX5_leaves 0 = .ok (.iload_n 1, 1) := by decide +kernel
theorem dX5_leaves_1 : decode cX5_leaves 1 = .ok (.ifCond .lt 9, 3) := by decide +kernel
theorem dX5_leaves_4 : decode cX5_leaves 4 = .ok (.iload_n 1, 1) := by decide +kernel
theorem dX5_leaves_5 : decode cX5_leaves 5 = .ok (.bipush 10, 2) := by decide +kernel
theorem dX5_leaves_7 : decode cX5_leaves 7 = .ok (.if_icmp .le 10, 3) := by decide +kernel
theorem dX5_leaves_10 : decode cX5_leaves 10 = .ok (.aload_n 0, 1) := by decide +kernel
theorem dX5_leaves_11 : decode cX5_leaves 11 = .ok (.ldc 57, 2) := by decide +kernel
theorem dX5_leaves_13 : decode cX5_leaves 13 = .ok (.invokevirtual 58, 3) := by decide +kernel
theorem dX5_leaves_16 : decode cX5_leaves 16 = .ok (.ireturn, 1) := by decide +kernel
theorem dX5_leaves_17 : decode cX5_leaves 17 = .ok (.aload_n 0, 1) := by decide +kernel
theorem dX5_leaves_18 : decode cX5_leaves 18 = .ok (.getfield 10, 3) := by decide +kernel
theorem dX5_leaves_21 : decode cX5_leaves 21 = .ok (.getfield 104, 3) := by decide +kernel
theorem dX5_leaves_24 : decode cX5_leaves 24 = .ok (.istore_n 2, 1) := by decide +kernel
theorem dX5_leaves_25 : decode cX5_leaves 25 = .ok (.aload_n 0, 1) := by decide +kernel
theorem dX5_leaves_26 : decode cX5_leaves 26 = .ok (.getfield 10, 3) := by decide +kernel
theorem dX5_leaves_29 : decode cX5_leaves 29 = .ok (.iload_n 1, 1) := by decide +kernel
theorem dX5_leaves_30 : decode cX5_leaves 30 = .ok (.putfield 104, 3) := by decide +kernel
theorem dX5_leaves_33 : decode cX5_leaves 33 = .ok (.iload_n 2, 1) := by decide +kernel
theorem dX5_leaves_34 : decode cX5_leaves 34 = .ok (.ireturn, 1) := by decide +kernel
theorem dX5_beat_0 : decode cX5_beat 0 = .ok (.aload_n 0, 1) := by decide +kernel
theorem dX5_beat_1 : decode cX5_beat 1 = .ok (.getfield 10, 3) := by decide +kernel
theorem dX5_beat_4 : decode cX5_beat 4 = .ok (.iload_n 1, 1) := by decide +kernel
theorem dX5_beat_5 : decode cX5_beat 5 = .ok (.invokevirtual 107, 3) := by decide +kernel
theorem dX5_beat_8 : decode cX5_beat 8 = .ok (.ifCond .eq 14, 3) := by decide +kernel
theorem dX5_beat_11 : decode cX5_beat 11 = .ok (.aload_n 0, 1) := by decide +kernel
theorem dX5_beat_12 : decode cX5_beat 12 = .ok (.getfield 10, 3) := by decide +kernel
theorem dX5_beat_15 : decode cX5_beat 15 = .ok (.iload_n 2, 1) := by decide +kernel
theorem dX5_beat_16 : decode cX5_beat 16 = .ok (.invokevirtual 110, 3) := by decide +kernel
theorem dX5_beat_19 : decode cX5_beat 19 = .ok (.ifCond .ne 10, 3) := by decide +kernel
theorem dX5_beat_22 : decode cX5_beat 22 = .ok (.aload_n 0, 1) := by decide +kernel
theorem dX5_beat_23 : decode cX5_beat 23 = .ok (.ldc 57, 2) := by decide +kernel
theorem dX5_beat_25 : decode cX5_beat 25 = .ok (.invokevirtual 58, 3) := by decide +kernel
theorem dX5_beat_28 : decode cX5_beat 28 = .ok (.ireturn, 1) := by decide +kernel
theorem dX5_beat_29 : decode cX5_beat 29 = .ok (.aload_n 0, 1) := by decide +kernel
theorem dX5_beat_30 : decode cX5_beat 30 = .ok (.getfield 10, 3) := by decide +kernel
theorem dX5_beat_33 : decode cX5_beat 33 = .ok (.getfield 113, 3) := by decide +kernel
theorem dX5_beat_36 : decode cX5_beat 36 = .ok (.bipush 12, 2) := by decide +kernel
theorem dX5_beat_38 : decode cX5_beat 38 = .ok (.if_icmp .lt 10, 3) := by decide +kernel
theorem dX5_beat_41 : decode cX5_beat 41 = .ok (.aload_n 0, 1) := by decide +kernel
theorem dX5_beat_42 : decode cX5_beat 42 = .ok (.ldc 66, 2) := by decide +kernel
theorem dX5_beat_44 : decode cX5_beat 44 = .ok (.invokevirtual 58, 3) := by decide +kernel
theorem dX5_beat_47 : decode cX5_beat 47 = .ok (.ireturn, 1) := by decide +kernel
theorem dX5_beat_48 : decode cX5_beat 48 = .ok (.aload_n 0, 1) := by decide +kernel
theorem dX5_beat_49 : decode cX5_beat 49 = .ok (.getfield 10, 3) := by decide +kernel
theorem dX5_beat_52 : decode cX5_beat 52 = .ok (.iload_n 1, 1) := by decide +kernel
theorem dX5_beat_53 : decode cX5_beat 53 = .ok (.iload_n 2, 1) := by decide +kernel
theorem dX5_beat_54 : decode cX5_beat 54 = .ok (.invokevirtual 116, 3) := by decide +kernel
theorem dX5_beat_57 : decode cX5_beat 57 = .ok (.ireturn, 1) := by decide +kernel
theorem dX5_told_0 : decode cX5_told 0 = .ok (.aload_n 0, 1) := by decide +kernel
theorem dX5_told_1 : decode cX5_told 1 = .ok (.getfield 10, 3) := by decide +kernel
theorem dX5_told_4 : decode cX5_told 4 = .ok (.iload_n 1, 1) := by decide +kernel
theorem dX5_told_5 : decode cX5_told 5 = .ok (.invokevirtual 120, 3) := by decide +kernel
theorem dX5_told_8 : decode cX5_told 8 = .ok (.ifCond .ne 10, 3) := by decide +kernel
theorem dX5_told_11 : decode cX5_told 11 = .ok (.aload_n 0, 1) := by decide +kernel
theorem dX5_told_12 : decode cX5_told 12 = .ok (.ldc 57, 2) := by decide +kernel
theorem dX5_told_14 : decode cX5_told 14 = .ok (.invokevirtual 58, 3) := by decide +kernel
theorem dX5_told_17 : decode cX5_told 17 = .ok (.ireturn, 1) := by decide +kernel
theorem dX5_told_18 : decode cX5_told 18 = .ok (.iload_n 2, 1) := by decide +kernel
theorem dX5_told_19 : decode cX5_told 19 = .ok (.tableswitch 60 0 2 #[25, 34, 43], 25) := by decide +kernel
theorem dX5_told_44 : decode cX5_told 44 = .ok (.aload_n 0, 1) := by decide +kernel
theorem dX5_told_45 : decode cX5_told 45 = .ok (.getfield 10, 3) := by decide +kernel
theorem dX5_told_48 : decode cX5_told 48 = .ok (.iload_n 1, 1) := by decide +kernel
theorem dX5_told_49 : decode cX5_told 49 = .ok (.invokevirtual 123, 3) := by decide +kernel
theorem dX5_told_52 : decode cX5_told 52 = .ok (.ireturn, 1) := by decide +kernel
theorem dX5_told_53 : decode cX5_told 53 = .ok (.aload_n 0, 1) := by decide +kernel
theorem dX5_told_54 : decode cX5_told 54 = .ok (.getfield 10, 3) := by decide +kernel
theorem dX5_told_57 : decode cX5_told 57 = .ok (.iload_n 1, 1) := by decide +kernel
theorem dX5_told_58 : decode cX5_told 58 = .ok (.invokevirtual 126, 3) := by decide +kernel
theorem dX5_told_61 : decode cX5_told 61 = .ok (.ireturn, 1) := by decide +kernel
theorem dX5_told_62 : decode cX5_told 62 = .ok (.aload_n 0, 1) := by decide +kernel
theorem dX5_told_63 : decode cX5_told 63 = .ok (.getfield 10, 3) := by decide +kernel
theorem dX5_told_66 : decode cX5_told 66 = .ok (.iload_n 1, 1) := by decide +kernel
theorem dX5_told_67 : decode cX5_told 67 = .ok (.invokevirtual 129, 3) := by decide +kernel
theorem dX5_told_70 : decode cX5_told 70 = .ok (.ifCond .eq 7, 3) := by decide +kernel
theorem dX5_told_73 : decode cX5_told 73 = .ok (.iconst 1, 1) := by decide +kernel
theorem dX5_told_74 : decode cX5_told 74 = .ok (.goto 4, 3) := by decide +kernel
theorem dX5_told_77 : decode cX5_told 77 = .ok (.iconst 0, 1) := by decide +kernel
theorem dX5_told_78 : decode cX5_told 78 = .ok (.ireturn, 1) := by decide +kernel
theorem dX5_told_79 : decode cX5_told 79 = .ok (.aload_n 0, 1) := by decide +kernel
theorem dX5_told_80 : decode cX5_told 80 = .ok (.ldc 57, 2) := by decide +kernel
theorem dX5_told_82 : decode cX5_told 82 = .ok (.invokevirtual 58, 3) := by decide +kernel
theorem dX5_told_85 : decode cX5_told 85 = .ok (.ireturn, 1) := by decide +kernel
theorem dX5_tell_0 : decode cX5_tell 0 = .ok (.aload_n 0, 1) := by decide +kernel
theorem dX5_tell_1 : decode cX5_tell 1 = .ok (.getfield 10, 3) := by decide +kernel
theorem dX5_tell_4 : decode cX5_tell 4 = .ok (.iload_n 1, 1) := by decide +kernel
theorem dX5_tell_5 : decode cX5_tell 5 = .ok (.invokevirtual 120, 3) := by decide +kernel
theorem dX5_tell_8 : decode cX5_tell 8 = .ok (.ifCond .ne 10, 3) := by decide +kernel
theorem dX5_tell_11 : decode cX5_tell 11 = .ok (.aload_n 0, 1) := by decide +kernel
theorem dX5_tell_12 : decode cX5_tell 12 = .ok (.ldc 57, 2) := by decide +kernel
theorem dX5_tell_14 : decode cX5_tell 14 = .ok (.invokevirtual 58, 3) := by decide +kernel
theorem dX5_tell_17 : decode cX5_tell 17 = .ok (.ireturn, 1) := by decide +kernel
theorem dX5_tell_18 : decode cX5_tell 18 = .ok (.iload_n 2, 1) := by decide +kernel
theorem dX5_tell_19 : decode cX5_tell 19 = .ok (.ifCond .ne 36, 3) := by decide +kernel
theorem dX5_tell_22 : decode cX5_tell 22 = .ok (.aload_n 0, 1) := by decide +kernel
theorem dX5_tell_23 : decode cX5_tell 23 = .ok (.getfield 10, 3) := by decide +kernel
theorem dX5_tell_26 : decode cX5_tell 26 = .ok (.iload_n 3, 1) := by decide +kernel
theorem dX5_tell_27 : decode cX5_tell 27 = .ok (.invokevirtual 107, 3) := by decide +kernel
theorem dX5_tell_30 : decode cX5_tell 30 = .ok (.ifCond .eq 25, 3) := by decide +kernel
theorem dX5_tell_33 : decode cX5_tell 33 = .ok (.aload_n 0, 1) := by decide +kernel
theorem dX5_tell_34 : decode cX5_tell 34 = .ok (.getfield 10, 3) := by decide +kernel
theorem dX5_tell_37 : decode cX5_tell 37 = .ok (.iload_n 1, 1) := by decide +kernel
theorem dX5_tell_38 : decode cX5_tell 38 = .ok (.invokevirtual 123, 3) := by decide +kernel
theorem dX5_tell_41 : decode cX5_tell 41 = .ok (.istore 4, 2) := by decide +kernel
theorem dX5_tell_43 : decode cX5_tell 43 = .ok (.aload_n 0, 1) := by decide +kernel
theorem dX5_tell_44 : decode cX5_tell 44 = .ok (.getfield 10, 3) := by decide +kernel
theorem dX5_tell_47 : decode cX5_tell 47 = .ok (.iload_n 1, 1) := by decide +kernel
theorem dX5_tell_48 : decode cX5_tell 48 = .ok (.iload_n 3, 1) := by decide +kernel
theorem dX5_tell_49 : decode cX5_tell 49 = .ok (.invokevirtual 132, 3) := by decide +kernel
theorem dX5_tell_52 : decode cX5_tell 52 = .ok (.goto 49, 3) := by decide +kernel
theorem dX5_tell_55 : decode cX5_tell 55 = .ok (.iload_n 2, 1) := by decide +kernel
theorem dX5_tell_56 : decode cX5_tell 56 = .ok (.iconst 1, 1) := by decide +kernel
theorem dX5_tell_57 : decode cX5_tell 57 = .ok (.if_icmp .ne 36, 3) := by decide +kernel
theorem dX5_tell_60 : decode cX5_tell 60 = .ok (.aload_n 0, 1) := by decide +kernel
theorem dX5_tell_61 : decode cX5_tell 61 = .ok (.getfield 10, 3) := by decide +kernel
theorem dX5_tell_64 : decode cX5_tell 64 = .ok (.iload_n 3, 1) := by decide +kernel
theorem dX5_tell_65 : decode cX5_tell 65 = .ok (.invokevirtual 110, 3) := by decide +kernel
theorem dX5_tell_68 : decode cX5_tell 68 = .ok (.ifCond .eq 25, 3) := by decide +kernel
theorem dX5_tell_71 : decode cX5_tell 71 = .ok (.aload_n 0, 1) := by decide +kernel
theorem dX5_tell_72 : decode cX5_tell 72 = .ok (.getfield 10, 3) := by decide +kernel
theorem dX5_tell_75 : decode cX5_tell 75 = .ok (.iload_n 1, 1) := by decide +kernel
theorem dX5_tell_76 : decode cX5_tell 76 = .ok (.invokevirtual 126, 3) := by decide +kernel
theorem dX5_tell_79 : decode cX5_tell 79 = .ok (.istore 4, 2) := by decide +kernel
theorem dX5_tell_81 : decode cX5_tell 81 = .ok (.aload_n 0, 1) := by decide +kernel
theorem dX5_tell_82 : decode cX5_tell 82 = .ok (.getfield 10, 3) := by decide +kernel
theorem dX5_tell_85 : decode cX5_tell 85 = .ok (.iload_n 1, 1) := by decide +kernel
theorem dX5_tell_86 : decode cX5_tell 86 = .ok (.iload_n 3, 1) := by decide +kernel
theorem dX5_tell_87 : decode cX5_tell 87 = .ok (.invokevirtual 135, 3) := by decide +kernel
theorem dX5_tell_90 : decode cX5_tell 90 = .ok (.goto 11, 3) := by decide +kernel
theorem dX5_tell_93 : decode cX5_tell 93 = .ok (.aload_n 0, 1) := by decide +kernel
theorem dX5_tell_94 : decode cX5_tell 94 = .ok (.ldc 57, 2) := by decide +kernel
theorem dX5_tell_96 : decode cX5_tell 96 = .ok (.invokevirtual 58, 3) := by decide +kernel
theorem dX5_tell_99 : decode cX5_tell 99 = .ok (.istore 4, 2) := by decide +kernel
theorem dX5_tell_101 : decode cX5_tell 101 = .ok (.iload 4, 2) := by decide +kernel
theorem dX5_tell_103 : decode cX5_tell 103 = .ok (.ireturn, 1) := by decide +kernel
theorem dX5_cut_0 : decode cX5_cut 0 = .ok (.aload_n 0, 1) := by decide +kernel
theorem dX5_cut_1 : decode cX5_cut 1 = .ok (.getfield 10, 3) := by decide +kernel
theorem dX5_cut_4 : decode cX5_cut 4 = .ok (.iload_n 1, 1) := by decide +kernel
theorem dX5_cut_5 : decode cX5_cut 5 = .ok (.invokevirtual 120, 3) := by decide +kernel
theorem dX5_cut_8 : decode cX5_cut 8 = .ok (.ifCond .ne 10, 3) := by decide +kernel
theorem dX5_cut_11 : decode cX5_cut 11 = .ok (.aload_n 0, 1) := by decide +kernel
theorem dX5_cut_12 : decode cX5_cut 12 = .ok (.ldc 57, 2) := by decide +kernel
theorem dX5_cut_14 : decode cX5_cut 14 = .ok (.invokevirtual 58, 3) := by decide +kernel
theorem dX5_cut_17 : decode cX5_cut 17 = .ok (.ireturn, 1) := by decide +kernel
theorem dX5_cut_18 : decode cX5_cut 18 = .ok (.aload_n 0, 1) := by decide +kernel
theorem dX5_cut_19 : decode cX5_cut 19 = .ok (.getfield 10, 3) := by decide +kernel
theorem dX5_cut_22 : decode cX5_cut 22 = .ok (.iload_n 1, 1) := by decide +kernel
theorem dX5_cut_23 : decode cX5_cut 23 = .ok (.invokevirtual 138, 3) := by decide +kernel
theorem dX5_cut_26 : decode cX5_cut 26 = .ok (.aload_n 0, 1) := by decide +kernel
theorem dX5_cut_27 : decode cX5_cut 27 = .ok (.getfield 10, 3) := by decide +kernel
theorem dX5_cut_30 : decode cX5_cut 30 = .ok (.getfield 113, 3) := by decide +kernel
theorem dX5_cut_33 : decode cX5_cut 33 = .ok (.ireturn, 1) := by decide +kernel
theorem dX5_wrong_0 : decode cX5_wrong 0 = .ok (.aload_n 0, 1) := by decide +kernel
theorem dX5_wrong_1 : decode cX5_wrong 1 = .ok (.getfield 10, 3) := by decide +kernel
theorem dX5_wrong_4 : decode cX5_wrong 4 = .ok (.invokevirtual 142, 3) := by decide +kernel
theorem dX5_wrong_7 : decode cX5_wrong 7 = .ok (.ireturn, 1) := by decide +kernel
theorem dX5_whistle_0 : decode cX5_whistle 0 = .ok (.iconst 0, 1) := by decide +kernel
theorem dX5_whistle_1 : decode cX5_whistle 1 = .ok (.istore_n 1, 1) := by decide +kernel
theorem dX5_whistle_2 : decode cX5_whistle 2 = .ok (.iconst (-1), 1) := by decide +kernel
theorem dX5_whistle_3 : decode cX5_whistle 3 = .ok (.istore_n 2, 1) := by decide +kernel
theorem dX5_whistle_4 : decode cX5_whistle 4 = .ok (.iconst 0, 1) := by decide +kernel
theorem dX5_whistle_5 : decode cX5_whistle 5 = .ok (.istore_n 3, 1) := by decide +kernel
theorem dX5_whistle_6 : decode cX5_whistle 6 = .ok (.iload_n 3, 1) := by decide +kernel
theorem dX5_whistle_7 : decode cX5_whistle 7 = .ok (.aload_n 0, 1) := by decide +kernel
theorem dX5_whistle_8 : decode cX5_whistle 8 = .ok (.getfield 10, 3) := by decide +kernel
theorem dX5_whistle_11 : decode cX5_whistle 11 = .ok (.getfield 113, 3) := by decide +kernel
theorem dX5_whistle_14 : decode cX5_whistle 14 = .ok (.if_icmp .ge 59, 3) := by decide +kernel
theorem dX5_whistle_17 : decode cX5_whistle 17 = .ok (.aload_n 0, 1) := by decide +kernel
theorem dX5_whistle_18 : decode cX5_whistle 18 = .ok (.getfield 10, 3) := by decide +kernel
theorem dX5_whistle_21 : decode cX5_whistle 21 = .ok (.iload_n 3, 1) := by decide +kernel
theorem dX5_whistle_22 : decode cX5_whistle 22 = .ok (.invokevirtual 126, 3) := by decide +kernel
theorem dX5_whistle_25 : decode cX5_whistle 25 = .ok (.istore 4, 2) := by decide +kernel
theorem dX5_whistle_27 : decode cX5_whistle 27 = .ok (.iload 4, 2) := by decide +kernel
theorem dX5_whistle_29 : decode cX5_whistle 29 = .ok (.iconst (-1), 1) := by decide +kernel
theorem dX5_whistle_30 : decode cX5_whistle 30 = .ok (.if_icmp .ne 6, 3) := by decide +kernel
theorem dX5_whistle_33 : decode cX5_whistle 33 = .ok (.goto 34, 3) := by decide +kernel
theorem dX5_whistle_36 : decode cX5_whistle 36 = .ok (.iload_n 2, 1) := by decide +kernel
theorem dX5_whistle_37 : decode cX5_whistle 37 = .ok (.iconst (-1), 1) := by decide +kernel
theorem dX5_whistle_38 : decode cX5_whistle 38 = .ok (.if_icmp .eq 26, 3) := by decide +kernel
theorem dX5_whistle_41 : decode cX5_whistle 41 = .ok (.aload_n 0, 1) := by decide +kernel
theorem dX5_whistle_42 : decode cX5_whistle 42 = .ok (.getfield 10, 3) := by decide +kernel
theorem dX5_whistle_45 : decode cX5_whistle 45 = .ok (.iload 4, 2) := by decide +kernel
theorem dX5_whistle_47 : decode cX5_whistle 47 = .ok (.invokevirtual 85, 3) := by decide +kernel
theorem dX5_whistle_50 : decode cX5_whistle 50 = .ok (.aload_n 0, 1) := by decide +kernel
theorem dX5_whistle_51 : decode cX5_whistle 51 = .ok (.getfield 10, 3) := by decide +kernel
theorem dX5_whistle_54 : decode cX5_whistle 54 = .ok (.iload_n 2, 1) := by decide +kernel
theorem dX5_whistle_55 : decode cX5_whistle 55 = .ok (.invokevirtual 85, 3) := by decide +kernel
theorem dX5_whistle_58 : decode cX5_whistle 58 = .ok (.if_icmp .eq 6, 3) := by decide +kernel
theorem dX5_whistle_61 : decode cX5_whistle 61 = .ok (.iinc 1 1, 3) := by decide +kernel
theorem dX5_whistle_64 : decode cX5_whistle 64 = .ok (.iload 4, 2) := by decide +kernel
theorem dX5_whistle_66 : decode cX5_whistle 66 = .ok (.istore_n 2, 1) := by decide +kernel
theorem dX5_whistle_67 : decode cX5_whistle 67 = .ok (.iinc 3 1, 3) := by decide +kernel
theorem dX5_whistle_70 : decode cX5_whistle 70 = .ok (.goto (-64), 3) := by decide +kernel
theorem dX5_whistle_73 : decode cX5_whistle 73 = .ok (.iload_n 1, 1) := by decide +kernel
theorem dX5_whistle_74 : decode cX5_whistle 74 = .ok (.ireturn, 1) := by decide +kernel
theorem dX5_puts_0 : decode cX5_puts 0 = .ok (.iload_n 1, 1) := by decide +kernel
theorem dX5_puts_1 : decode cX5_puts 1 = .ok (.invokestatic 146, 3) := by decide +kernel
theorem dX5_puts_4 : decode cX5_puts 4 = .ok (.ifCond .eq 14, 3) := by decide +kernel
theorem dX5_puts_7 : decode cX5_puts 7 = .ok (.aload_n 0, 1) := by decide +kernel
theorem dX5_puts_8 : decode cX5_puts 8 = .ok (.getfield 10, 3) := by decide +kernel
theorem dX5_puts_11 : decode cX5_puts 11 = .ok (.iload_n 2, 1) := by decide +kernel
theorem dX5_puts_12 : decode cX5_puts 12 = .ok (.invokevirtual 110, 3) := by decide +kernel
theorem dX5_puts_15 : decode cX5_puts 15 = .ok (.ifCond .ne 10, 3) := by decide +kernel
theorem dX5_puts_18 : decode cX5_puts 18 = .ok (.aload_n 0, 1) := by decide +kernel
theorem dX5_puts_19 : decode cX5_puts 19 = .ok (.ldc 57, 2) := by decide +kernel
theorem dX5_puts_21 : decode cX5_puts 21 = .ok (.invokevirtual 58, 3) := by decide +kernel
theorem dX5_puts_24 : decode cX5_puts 24 = .ok (.ireturn, 1) := by decide +kernel
theorem dX5_puts_25 : decode cX5_puts 25 = .ok (.iload_n 2, 1) := by decide +kernel
theorem dX5_puts_26 : decode cX5_puts 26 = .ok (.iconst (-1), 1) := by decide +kernel
theorem dX5_puts_27 : decode cX5_puts 27 = .ok (.if_icmp .eq 24, 3) := by decide +kernel
theorem dX5_puts_30 : decode cX5_puts 30 = .ok (.aload_n 0, 1) := by decide +kernel
theorem dX5_puts_31 : decode cX5_puts 31 = .ok (.getfield 10, 3) := by decide +kernel
theorem dX5_puts_34 : decode cX5_puts 34 = .ok (.iconst 1, 1) := by decide +kernel
theorem dX5_puts_35 : decode cX5_puts 35 = .ok (.iload_n 1, 1) := by decide +kernel
theorem dX5_puts_36 : decode cX5_puts 36 = .ok (.isub, 1) := by decide +kernel
theorem dX5_puts_37 : decode cX5_puts 37 = .ok (.invokevirtual 149, 3) := by decide +kernel
theorem dX5_puts_40 : decode cX5_puts 40 = .ok (.iload_n 2, 1) := by decide +kernel
theorem dX5_puts_41 : decode cX5_puts 41 = .ok (.if_icmp .ne 10, 3) := by decide +kernel
theorem dX5_puts_44 : decode cX5_puts 44 = .ok (.aload_n 0, 1) := by decide +kernel
theorem dX5_puts_45 : decode cX5_puts 45 = .ok (.ldc 152, 2) := by decide +kernel
theorem dX5_puts_47 : decode cX5_puts 47 = .ok (.invokevirtual 58, 3) := by decide +kernel
theorem dX5_puts_50 : decode cX5_puts 50 = .ok (.ireturn, 1) := by decide +kernel
theorem dX5_puts_51 : decode cX5_puts 51 = .ok (.aload_n 0, 1) := by decide +kernel
theorem dX5_puts_52 : decode cX5_puts 52 = .ok (.getfield 10, 3) := by decide +kernel
theorem dX5_puts_55 : decode cX5_puts 55 = .ok (.iload_n 1, 1) := by decide +kernel
theorem dX5_puts_56 : decode cX5_puts 56 = .ok (.iload_n 2, 1) := by decide +kernel
theorem dX5_puts_57 : decode cX5_puts 57 = .ok (.invokevirtual 153, 3) := by decide +kernel
theorem dX5_puts_60 : decode cX5_puts 60 = .ok (.ireturn, 1) := by decide +kernel
theorem dX5_hand_0 : decode cX5_hand 0 = .ok (.iload_n 1, 1) := by decide +kernel
theorem dX5_hand_1 : decode cX5_hand 1 = .ok (.invokestatic 146, 3) := by decide +kernel
theorem dX5_hand_4 : decode cX5_hand 4 = .ok (.ifCond .ne 10, 3) := by decide +kernel
theorem dX5_hand_7 : decode cX5_hand 7 = .ok (.aload_n 0, 1) := by decide +kernel
theorem dX5_hand_8 : decode cX5_hand 8 = .ok (.ldc 57, 2) := by decide +kernel
theorem dX5_hand_10 : decode cX5_hand 10 = .ok (.invokevirtual 58, 3) := by decide +kernel
theorem dX5_hand_13 : decode cX5_hand 13 = .ok (.ireturn, 1) := by decide +kernel
theorem dX5_hand_14 : decode cX5_hand 14 = .ok (.aload_n 0, 1) := by decide +kernel
theorem dX5_hand_15 : decode cX5_hand 15 = .ok (.getfield 10, 3) := by decide +kernel
theorem dX5_hand_18 : decode cX5_hand 18 = .ok (.iload_n 1, 1) := by decide +kernel
theorem dX5_hand_19 : decode cX5_hand 19 = .ok (.invokevirtual 149, 3) := by decide +kernel
theorem dX5_hand_22 : decode cX5_hand 22 = .ok (.ireturn, 1) := by decide +kernel
theorem dX5_suits_0 : decode cX5_suits 0 = .ok (.aload_n 0, 1) := by decide +kernel
theorem dX5_suits_1 : decode cX5_suits 1 = .ok (.getfield 10, 3) := by decide +kernel
theorem dX5_suits_4 : decode cX5_suits 4 = .ok (.iload_n 1, 1) := by decide +kernel
theorem dX5_suits_5 : decode cX5_suits 5 = .ok (.invokevirtual 120, 3) := by decide +kernel
theorem dX5_suits_8 : decode cX5_suits 8 = .ok (.ifCond .ne 10, 3) := by decide +kernel
theorem dX5_suits_11 : decode cX5_suits 11 = .ok (.aload_n 0, 1) := by decide +kernel
theorem dX5_suits_12 : decode cX5_suits 12 = .ok (.ldc 57, 2) := by decide +kernel
theorem dX5_suits_14 : decode cX5_suits 14 = .ok (.invokevirtual 58, 3) := by decide +kernel
theorem dX5_suits_17 : decode cX5_suits 17 = .ok (.ireturn, 1) := by decide +kernel
theorem dX5_suits_18 : decode cX5_suits 18 = .ok (.aload_n 0, 1) := by decide +kernel
theorem dX5_suits_19 : decode cX5_suits 19 = .ok (.getfield 10, 3) := by decide +kernel
theorem dX5_suits_22 : decode cX5_suits 22 = .ok (.iload_n 1, 1) := by decide +kernel
theorem dX5_suits_23 : decode cX5_suits 23 = .ok (.aload_n 0, 1) := by decide +kernel
theorem dX5_suits_24 : decode cX5_suits 24 = .ok (.getfield 10, 3) := by decide +kernel
theorem dX5_suits_27 : decode cX5_suits 27 = .ok (.getfield 156, 3) := by decide +kernel
theorem dX5_suits_30 : decode cX5_suits 30 = .ok (.aload_n 0, 1) := by decide +kernel
theorem dX5_suits_31 : decode cX5_suits 31 = .ok (.getfield 10, 3) := by decide +kernel
theorem dX5_suits_34 : decode cX5_suits 34 = .ok (.getfield 159, 3) := by decide +kernel
theorem dX5_suits_37 : decode cX5_suits 37 = .ok (.invokevirtual 162, 3) := by decide +kernel
theorem dX5_suits_40 : decode cX5_suits 40 = .ok (.ifCond .eq 7, 3) := by decide +kernel
theorem dX5_suits_43 : decode cX5_suits 43 = .ok (.iconst 1, 1) := by decide +kernel
theorem dX5_suits_44 : decode cX5_suits 44 = .ok (.goto 4, 3) := by decide +kernel
theorem dX5_suits_47 : decode cX5_suits 47 = .ok (.iconst 0, 1) := by decide +kernel
theorem dX5_suits_48 : decode cX5_suits 48 = .ok (.ireturn, 1) := by decide +kernel
theorem dX5_now_0 : decode cX5_now 0 = .ok (.iload_n 1, 1) := by decide +kernel
theorem dX5_now_1 : decode cX5_now 1 = .ok (.tableswitch 75 0 4 #[35, 43, 51, 59, 67], 35) := by decide +kernel
theorem dX5_now_36 : decode cX5_now 36 = .ok (.aload_n 0, 1) := by decide +kernel
theorem dX5_now_37 : decode cX5_now 37 = .ok (.getfield 10, 3) := by decide +kernel
theorem dX5_now_40 : decode cX5_now 40 = .ok (.getfield 166, 3) := by decide +kernel
theorem dX5_now_43 : decode cX5_now 43 = .ok (.ireturn, 1) := by decide +kernel
theorem dX5_now_44 : decode cX5_now 44 = .ok (.aload_n 0, 1) := by decide +kernel
theorem dX5_now_45 : decode cX5_now 45 = .ok (.getfield 10, 3) := by decide +kernel
theorem dX5_now_48 : decode cX5_now 48 = .ok (.getfield 169, 3) := by decide +kernel
theorem dX5_now_51 : decode cX5_now 51 = .ok (.ireturn, 1) := by decide +kernel
theorem dX5_now_52 : decode cX5_now 52 = .ok (.aload_n 0, 1) := by decide +kernel
theorem dX5_now_53 : decode cX5_now 53 = .ok (.getfield 10, 3) := by decide +kernel
theorem dX5_now_56 : decode cX5_now 56 = .ok (.getfield 172, 3) := by decide +kernel
theorem dX5_now_59 : decode cX5_now 59 = .ok (.ireturn, 1) := by decide +kernel
theorem dX5_now_60 : decode cX5_now 60 = .ok (.aload_n 0, 1) := by decide +kernel
theorem dX5_now_61 : decode cX5_now 61 = .ok (.getfield 10, 3) := by decide +kernel
theorem dX5_now_64 : decode cX5_now 64 = .ok (.getfield 175, 3) := by decide +kernel
theorem dX5_now_67 : decode cX5_now 67 = .ok (.ireturn, 1) := by decide +kernel
theorem dX5_now_68 : decode cX5_now 68 = .ok (.aload_n 0, 1) := by decide +kernel
theorem dX5_now_69 : decode cX5_now 69 = .ok (.getfield 10, 3) := by decide +kernel
theorem dX5_now_72 : decode cX5_now 72 = .ok (.getfield 104, 3) := by decide +kernel
theorem dX5_now_75 : decode cX5_now 75 = .ok (.ireturn, 1) := by decide +kernel
theorem dX5_now_76 : decode cX5_now 76 = .ok (.aload_n 0, 1) := by decide +kernel
theorem dX5_now_77 : decode cX5_now 77 = .ok (.ldc 57, 2) := by decide +kernel
theorem dX5_now_79 : decode cX5_now 79 = .ok (.invokevirtual 58, 3) := by decide +kernel
theorem dX5_now_82 : decode cX5_now 82 = .ok (.ireturn, 1) := by decide +kernel
theorem dX5_least_0 : decode cX5_least 0 = .ok (.iload_n 1, 1) := by decide +kernel
theorem dX5_least_1 : decode cX5_least 1 = .ok (.invokestatic 178, 3) := by decide +kernel
theorem dX5_least_4 : decode cX5_least 4 = .ok (.ifCond .ne 10, 3) := by decide +kernel
theorem dX5_least_7 : decode cX5_least 7 = .ok (.aload_n 0, 1) := by decide +kernel
theorem dX5_least_8 : decode cX5_least 8 = .ok (.ldc 57, 2) := by decide +kernel
theorem dX5_least_10 : decode cX5_least 10 = .ok (.invokevirtual 58, 3) := by decide +kernel
theorem dX5_least_13 : decode cX5_least 13 = .ok (.ireturn, 1) := by decide +kernel
theorem dX5_least_14 : decode cX5_least 14 = .ok (.aload_n 0, 1) := by decide +kernel
theorem dX5_least_15 : decode cX5_least 15 = .ok (.getfield 10, 3) := by decide +kernel
theorem dX5_least_18 : decode cX5_least 18 = .ok (.invokevirtual 181, 3) := by decide +kernel
theorem dX5_least_21 : decode cX5_least 21 = .ok (.ifCond .ne 10, 3) := by decide +kernel
theorem dX5_least_24 : decode cX5_least 24 = .ok (.aload_n 0, 1) := by decide +kernel
theorem dX5_least_25 : decode cX5_least 25 = .ok (.ldc 152, 2) := by decide +kernel
theorem dX5_least_27 : decode cX5_least 27 = .ok (.invokevirtual 58, 3) := by decide +kernel
theorem dX5_least_30 : decode cX5_least 30 = .ok (.ireturn, 1) := by decide +kernel
theorem dX5_least_31 : decode cX5_least 31 = .ok (.aload_n 0, 1) := by decide +kernel
theorem dX5_least_32 : decode cX5_least 32 = .ok (.getfield 25, 3) := by decide +kernel
theorem dX5_least_35 : decode cX5_least 35 = .ok (.aload_n 0, 1) := by decide +kernel
theorem dX5_least_36 : decode cX5_least 36 = .ok (.getfield 10, 3) := by decide +kernel
theorem dX5_least_39 : decode cX5_least 39 = .ok (.iload_n 1, 1) := by decide +kernel
theorem dX5_least_40 : decode cX5_least 40 = .ok (.invokevirtual 185, 3) := by decide +kernel
theorem dX5_least_43 : decode cX5_least 43 = .ok (.ireturn, 1) := by decide +kernel
theorem dX5_held_0 : decode cX5_held 0 = .ok (.aload_n 0, 1) := by decide +kernel
theorem dX5_held_1 : decode cX5_held 1 = .ok (.getfield 10, 3) := by decide +kernel
theorem dX5_held_4 : decode cX5_held 4 = .ok (.iload_n 1, 1) := by decide +kernel
theorem dX5_held_5 : decode cX5_held 5 = .ok (.invokevirtual 120, 3) := by decide +kernel
theorem dX5_held_8 : decode cX5_held 8 = .ok (.ifCond .eq 17, 3) := by decide +kernel
theorem dX5_held_11 : decode cX5_held 11 = .ok (.iload_n 2, 1) := by decide +kernel
theorem dX5_held_12 : decode cX5_held 12 = .ok (.invokestatic 146, 3) := by decide +kernel
theorem dX5_held_15 : decode cX5_held 15 = .ok (.ifCond .eq 10, 3) := by decide +kernel
theorem dX5_held_18 : decode cX5_held 18 = .ok (.iload_n 3, 1) := by decide +kernel
theorem dX5_held_19 : decode cX5_held 19 = .ok (.invokestatic 178, 3) := by decide +kernel
theorem dX5_held_22 : decode cX5_held 22 = .ok (.ifCond .ne 10, 3) := by decide +kernel
theorem dX5_held_25 : decode cX5_held 25 = .ok (.aload_n 0, 1) := by decide +kernel
theorem dX5_held_26 : decode cX5_held 26 = .ok (.ldc 57, 2) := by decide +kernel
theorem dX5_held_28 : decode cX5_held 28 = .ok (.invokevirtual 58, 3) := by decide +kernel
theorem dX5_held_31 : decode cX5_held 31 = .ok (.ireturn, 1) := by decide +kernel
theorem dX5_held_32 : decode cX5_held 32 = .ok (.aload_n 0, 1) := by decide +kernel
theorem dX5_held_33 : decode cX5_held 33 = .ok (.getfield 10, 3) := by decide +kernel
theorem dX5_held_36 : decode cX5_held 36 = .ok (.invokevirtual 181, 3) := by decide +kernel
theorem dX5_held_39 : decode cX5_held 39 = .ok (.ifCond .ne 10, 3) := by decide +kernel
theorem dX5_held_42 : decode cX5_held 42 = .ok (.aload_n 0, 1) := by decide +kernel
theorem dX5_held_43 : decode cX5_held 43 = .ok (.ldc 152, 2) := by decide +kernel
theorem dX5_held_45 : decode cX5_held 45 = .ok (.invokevirtual 58, 3) := by decide +kernel
theorem dX5_held_48 : decode cX5_held 48 = .ok (.ireturn, 1) := by decide +kernel
theorem dX5_held_49 : decode cX5_held 49 = .ok (.aload_n 0, 1) := by decide +kernel
theorem dX5_held_50 : decode cX5_held 50 = .ok (.getfield 25, 3) := by decide +kernel
theorem dX5_held_53 : decode cX5_held 53 = .ok (.aload_n 0, 1) := by decide +kernel
theorem dX5_held_54 : decode cX5_held 54 = .ok (.getfield 10, 3) := by decide +kernel
theorem dX5_held_57 : decode cX5_held 57 = .ok (.iload_n 3, 1) := by decide +kernel
theorem dX5_held_58 : decode cX5_held 58 = .ok (.invokevirtual 189, 3) := by decide +kernel
theorem dX5_held_61 : decode cX5_held 61 = .ok (.iload_n 2, 1) := by decide +kernel
theorem dX5_held_62 : decode cX5_held 62 = .ok (.ifCond .ne 14, 3) := by decide +kernel
theorem dX5_held_65 : decode cX5_held 65 = .ok (.aload_n 0, 1) := by decide +kernel
theorem dX5_held_66 : decode cX5_held 66 = .ok (.getfield 25, 3) := by decide +kernel
theorem dX5_held_69 : decode cX5_held 69 = .ok (.iload_n 1, 1) := by decide +kernel
theorem dX5_held_70 : decode cX5_held 70 = .ok (.invokevirtual 193, 3) := by decide +kernel
theorem dX5_held_73 : decode cX5_held 73 = .ok (.goto 11, 3) := by decide +kernel
theorem dX5_held_76 : decode cX5_held 76 = .ok (.aload_n 0, 1) := by decide +kernel
theorem dX5_held_77 : decode cX5_held 77 = .ok (.getfield 25, 3) := by decide +kernel
theorem dX5_held_80 : decode cX5_held 80 = .ok (.iload_n 1, 1) := by decide +kernel
theorem dX5_held_81 : decode cX5_held 81 = .ok (.invokevirtual 196, 3) := by decide +kernel
theorem dX5_held_84 : decode cX5_held 84 = .ok (.ireturn, 1) := by decide +kernel
theorem dX5_part_0 : decode cX5_part 0 = .ok (.aload_n 0, 1) := by decide +kernel
theorem dX5_part_1 : decode cX5_part 1 = .ok (.getfield 10, 3) := by decide +kernel
theorem dX5_part_4 : decode cX5_part 4 = .ok (.iload_n 1, 1) := by decide +kernel
theorem dX5_part_5 : decode cX5_part 5 = .ok (.invokevirtual 120, 3) := by decide +kernel
theorem dX5_part_8 : decode cX5_part 8 = .ok (.ifCond .eq 26, 3) := by decide +kernel
theorem dX5_part_11 : decode cX5_part 11 = .ok (.aload_n 0, 1) := by decide +kernel
theorem dX5_part_12 : decode cX5_part 12 = .ok (.getfield 10, 3) := by decide +kernel
theorem dX5_part_15 : decode cX5_part 15 = .ok (.iload_n 2, 1) := by decide +kernel
theorem dX5_part_16 : decode cX5_part 16 = .ok (.invokevirtual 120, 3) := by decide +kernel
theorem dX5_part_19 : decode cX5_part 19 = .ok (.ifCond .eq 15, 3) := by decide +kernel
theorem dX5_part_22 : decode cX5_part 22 = .ok (.iload_n 1, 1) := by decide +kernel
theorem dX5_part_23 : decode cX5_part 23 = .ok (.iload_n 2, 1) := by decide +kernel
theorem dX5_part_24 : decode cX5_part 24 = .ok (.if_icmp .gt 10, 3) := by decide +kernel
theorem dX5_part_27 : decode cX5_part 27 = .ok (.iload_n 3, 1) := by decide +kernel
theorem dX5_part_28 : decode cX5_part 28 = .ok (.invokestatic 178, 3) := by decide +kernel
theorem dX5_part_31 : decode cX5_part 31 = .ok (.ifCond .ne 10, 3) := by decide +kernel
theorem dX5_part_34 : decode cX5_part 34 = .ok (.aload_n 0, 1) := by decide +kernel
theorem dX5_part_35 : decode cX5_part 35 = .ok (.ldc 57, 2) := by decide +kernel
theorem dX5_part_37 : decode cX5_part 37 = .ok (.invokevirtual 58, 3) := by decide +kernel
theorem dX5_part_40 : decode cX5_part 40 = .ok (.ireturn, 1) := by decide +kernel
theorem dX5_part_41 : decode cX5_part 41 = .ok (.aload_n 0, 1) := by decide +kernel
theorem dX5_part_42 : decode cX5_part 42 = .ok (.getfield 19, 3) := by decide +kernel
theorem dX5_part_45 : decode cX5_part 45 = .ok (.aload_n 0, 1) := by decide +kernel
theorem dX5_part_46 : decode cX5_part 46 = .ok (.getfield 10, 3) := by decide +kernel
theorem dX5_part_49 : decode cX5_part 49 = .ok (.invokevirtual 199, 3) := by decide +kernel
theorem dX5_part_52 : decode cX5_part 52 = .ok (.aload_n 0, 1) := by decide +kernel
theorem dX5_part_53 : decode cX5_part 53 = .ok (.getfield 19, 3) := by decide +kernel
theorem dX5_part_56 : decode cX5_part 56 = .ok (.iload_n 1, 1) := by decide +kernel
theorem dX5_part_57 : decode cX5_part 57 = .ok (.iload_n 2, 1) := by decide +kernel
theorem dX5_part_58 : decode cX5_part 58 = .ok (.invokevirtual 203, 3) := by decide +kernel
theorem dX5_part_61 : decode cX5_part 61 = .ok (.aload_n 0, 1) := by decide +kernel
theorem dX5_part_62 : decode cX5_part 62 = .ok (.getfield 19, 3) := by decide +kernel
theorem dX5_part_65 : decode cX5_part 65 = .ok (.invokevirtual 181, 3) := by decide +kernel
theorem dX5_part_68 : decode cX5_part 68 = .ok (.ifCond .ne 10, 3) := by decide +kernel
theorem dX5_part_71 : decode cX5_part 71 = .ok (.aload_n 0, 1) := by decide +kernel
theorem dX5_part_72 : decode cX5_part 72 = .ok (.ldc 152, 2) := by decide +kernel
theorem dX5_part_74 : decode cX5_part 74 = .ok (.invokevirtual 58, 3) := by decide +kernel
theorem dX5_part_77 : decode cX5_part 77 = .ok (.ireturn, 1) := by decide +kernel
theorem dX5_part_78 : decode cX5_part 78 = .ok (.aload_n 0, 1) := by decide +kernel
theorem dX5_part_79 : decode cX5_part 79 = .ok (.getfield 25, 3) := by decide +kernel
theorem dX5_part_82 : decode cX5_part 82 = .ok (.aload_n 0, 1) := by decide +kernel
theorem dX5_part_83 : decode cX5_part 83 = .ok (.getfield 19, 3) := by decide +kernel
theorem dX5_part_86 : decode cX5_part 86 = .ok (.iload_n 3, 1) := by decide +kernel
theorem dX5_part_87 : decode cX5_part 87 = .ok (.invokevirtual 185, 3) := by decide +kernel
theorem dX5_part_90 : decode cX5_part 90 = .ok (.ireturn, 1) := by decide +kernel
theorem dX5_dear_0 : decode cX5_dear 0 = .ok (.aload_n 0, 1) := by decide +kernel
theorem dX5_dear_1 : decode cX5_dear 1 = .ok (.getfield 10, 3) := by decide +kernel
theorem dX5_dear_4 : decode cX5_dear 4 = .ok (.getfield 113, 3) := by decide +kernel
theorem dX5_dear_7 : decode cX5_dear 7 = .ok (.ifCond .ne 10, 3) := by decide +kernel
theorem dX5_dear_10 : decode cX5_dear 10 = .ok (.aload_n 0, 1) := by decide +kernel
theorem dX5_dear_11 : decode cX5_dear 11 = .ok (.ldc 206, 2) := by decide +kernel
theorem dX5_dear_13 : decode cX5_dear 13 = .ok (.invokevirtual 58, 3) := by decide +kernel
theorem dX5_dear_16 : decode cX5_dear 16 = .ok (.ireturn, 1) := by decide +kernel
theorem dX5_dear_17 : decode cX5_dear 17 = .ok (.aload_n 0, 1) := by decide +kernel
theorem dX5_dear_18 : decode cX5_dear 18 = .ok (.getfield 10, 3) := by decide +kernel
theorem dX5_dear_21 : decode cX5_dear 21 = .ok (.invokevirtual 181, 3) := by decide +kernel
theorem dX5_dear_24 : decode cX5_dear 24 = .ok (.ifCond .ne 10, 3) := by decide +kernel
theorem dX5_dear_27 : decode cX5_dear 27 = .ok (.aload_n 0, 1) := by decide +kernel
theorem dX5_dear_28 : decode cX5_dear 28 = .ok (.ldc 152, 2) := by decide +kernel
theorem dX5_dear_30 : decode cX5_dear 30 = .ok (.invokevirtual 58, 3) := by decide +kernel
theorem dX5_dear_33 : decode cX5_dear 33 = .ok (.ireturn, 1) := by decide +kernel
theorem dX5_dear_34 : decode cX5_dear 34 = .ok (.iconst 0, 1) := by decide +kernel
theorem dX5_dear_35 : decode cX5_dear 35 = .ok (.istore_n 1, 1) := by decide +kernel
theorem dX5_dear_36 : decode cX5_dear 36 = .ok (.ldc 207, 2) := by decide +kernel
theorem dX5_dear_38 : decode cX5_dear 38 = .ok (.istore_n 2, 1) := by decide +kernel
theorem dX5_dear_39 : decode cX5_dear 39 = .ok (.iconst 0, 1) := by decide +kernel
theorem dX5_dear_40 : decode cX5_dear 40 = .ok (.istore_n 3, 1) := by decide +kernel
theorem dX5_dear_41 : decode cX5_dear 41 = .ok (.iload_n 3, 1) := by decide +kernel
theorem dX5_dear_42 : decode cX5_dear 42 = .ok (.aload_n 0, 1) := by decide +kernel
theorem dX5_dear_43 : decode cX5_dear 43 = .ok (.getfield 10, 3) := by decide +kernel
theorem dX5_dear_46 : decode cX5_dear 46 = .ok (.getfield 113, 3) := by decide +kernel
theorem dX5_dear_49 : decode cX5_dear 49 = .ok (.if_icmp .ge 53, 3) := by decide +kernel
theorem dX5_dear_52 : decode cX5_dear 52 = .ok (.aload_n 0, 1) := by decide +kernel
theorem dX5_dear_53 : decode cX5_dear 53 = .ok (.getfield 19, 3) := by decide +kernel
theorem dX5_dear_56 : decode cX5_dear 56 = .ok (.aload_n 0, 1) := by decide +kernel
theorem dX5_dear_57 : decode cX5_dear 57 = .ok (.getfield 10, 3) := by decide +kernel
theorem dX5_dear_60 : decode cX5_dear 60 = .ok (.invokevirtual 199, 3) := by decide +kernel
theorem dX5_dear_63 : decode cX5_dear 63 = .ok (.aload_n 0, 1) := by decide +kernel
theorem dX5_dear_64 : decode cX5_dear 64 = .ok (.getfield 19, 3) := by decide +kernel
theorem dX5_dear_67 : decode cX5_dear 67 = .ok (.iload_n 3, 1) := by decide +kernel
theorem dX5_dear_68 : decode cX5_dear 68 = .ok (.invokevirtual 138, 3) := by decide +kernel
theorem dX5_dear_71 : decode cX5_dear 71 = .ok (.aload_n 0, 1) := by decide +kernel
theorem dX5_dear_72 : decode cX5_dear 72 = .ok (.getfield 25, 3) := by decide +kernel
theorem dX5_dear_75 : decode cX5_dear 75 = .ok (.aload_n 0, 1) := by decide +kernel
theorem dX5_dear_76 : decode cX5_dear 76 = .ok (.getfield 19, 3) := by decide +kernel
theorem dX5_dear_79 : decode cX5_dear 79 = .ok (.iconst 0, 1) := by decide +kernel
theorem dX5_dear_80 : decode cX5_dear 80 = .ok (.invokevirtual 185, 3) := by decide +kernel
theorem dX5_dear_83 : decode cX5_dear 83 = .ok (.istore 4, 2) := by decide +kernel
theorem dX5_dear_85 : decode cX5_dear 85 = .ok (.iload 4, 2) := by decide +kernel
theorem dX5_dear_87 : decode cX5_dear 87 = .ok (.iload_n 2, 1) := by decide +kernel
theorem dX5_dear_88 : decode cX5_dear 88 = .ok (.if_icmp .ge 8, 3) := by decide +kernel
theorem dX5_dear_91 : decode cX5_dear 91 = .ok (.iload 4, 2) := by decide +kernel
theorem dX5_dear_93 : decode cX5_dear 93 = .ok (.istore_n 2, 1) := by decide +kernel
theorem dX5_dear_94 : decode cX5_dear 94 = .ok (.iload_n 3, 1) := by decide +kernel
theorem dX5_dear_95 : decode cX5_dear 95 = .ok (.istore_n 1, 1) := by decide +kernel
theorem dX5_dear_96 : decode cX5_dear 96 = .ok (.iinc 3 1, 3) := by decide +kernel
theorem dX5_dear_99 : decode cX5_dear 99 = .ok (.goto (-58), 3) := by decide +kernel
theorem dX5_dear_102 : decode cX5_dear 102 = .ok (.iload_n 1, 1) := by decide +kernel
theorem dX5_dear_103 : decode cX5_dear 103 = .ok (.ireturn, 1) := by decide +kernel
theorem dX5_rehang_0 : decode cX5_rehang 0 = .ok (.aload_n 0, 1) := by decide +kernel
theorem dX5_rehang_1 : decode cX5_rehang 1 = .ok (.getfield 10, 3) := by decide +kernel
theorem dX5_rehang_4 : decode cX5_rehang 4 = .ok (.invokevirtual 181, 3) := by decide +kernel
theorem dX5_rehang_7 : decode cX5_rehang 7 = .ok (.ifCond .ne 10, 3) := by decide +kernel
theorem dX5_rehang_10 : decode cX5_rehang 10 = .ok (.aload_n 0, 1) := by decide +kernel
theorem dX5_rehang_11 : decode cX5_rehang 11 = .ok (.ldc 152, 2) := by decide +kernel
theorem dX5_rehang_13 : decode cX5_rehang 13 = .ok (.invokevirtual 58, 3) := by decide +kernel
theorem dX5_rehang_16 : decode cX5_rehang 16 = .ok (.ireturn, 1) := by decide +kernel
theorem dX5_rehang_17 : decode cX5_rehang 17 = .ok (.aload_n 0, 1) := by decide +kernel
theorem dX5_rehang_18 : decode cX5_rehang 18 = .ok (.invokevirtual 208, 3) := by decide +kernel
theorem dX5_rehang_21 : decode cX5_rehang 21 = .ok (.ireturn, 1) := by decide +kernel
theorem dX5_rehung_0 : decode cX5_rehung 0 = .ok (.aload_n 0, 1) := by decide +kernel
theorem dX5_rehung_1 : decode cX5_rehung 1 = .ok (.getfield 10, 3) := by decide +kernel
theorem dX5_rehung_4 : decode cX5_rehung 4 = .ok (.invokevirtual 181, 3) := by decide +kernel
theorem dX5_rehung_7 : decode cX5_rehung 7 = .ok (.ifCond .ne 10, 3) := by decide +kernel
theorem dX5_rehung_10 : decode cX5_rehung 10 = .ok (.aload_n 0, 1) := by decide +kernel
theorem dX5_rehung_11 : decode cX5_rehung 11 = .ok (.ldc 152, 2) := by decide +kernel
theorem dX5_rehung_13 : decode cX5_rehung 13 = .ok (.invokevirtual 58, 3) := by decide +kernel
theorem dX5_rehung_16 : decode cX5_rehung 16 = .ok (.ireturn, 1) := by decide +kernel
theorem dX5_rehung_17 : decode cX5_rehung 17 = .ok (.aload_n 0, 1) := by decide +kernel
theorem dX5_rehung_18 : decode cX5_rehung 18 = .ok (.aload_n 0, 1) := by decide +kernel
theorem dX5_rehung_19 : decode cX5_rehung 19 = .ok (.invokevirtual 208, 3) := by decide +kernel
theorem dX5_rehung_22 : decode cX5_rehung 22 = .ok (.invokevirtual 211, 3) := by decide +kernel
theorem dX5_rehung_25 : decode cX5_rehung 25 = .ok (.ireturn, 1) := by decide +kernel
theorem dX5_kindFor_0 : decode cX5_kindFor 0 = .ok (.aload_n 0, 1) := by decide +kernel
theorem dX5_kindFor_1 : decode cX5_kindFor 1 = .ok (.getfield 10, 3) := by decide +kernel
theorem dX5_kindFor_4 : decode cX5_kindFor 4 = .ok (.iload_n 1, 1) := by decide +kernel
theorem dX5_kindFor_5 : decode cX5_kindFor 5 = .ok (.invokevirtual 70, 3) := by decide +kernel
theorem dX5_kindFor_8 : decode cX5_kindFor 8 = .ok (.ifCond .ne 10, 3) := by decide +kernel
theorem dX5_kindFor_11 : decode cX5_kindFor 11 = .ok (.aload_n 0, 1) := by decide +kernel
theorem dX5_kindFor_12 : decode cX5_kindFor 12 = .ok (.ldc 57, 2) := by decide +kernel
theorem dX5_kindFor_14 : decode cX5_kindFor 14 = .ok (.invokevirtual 58, 3) := by decide +kernel
theorem dX5_kindFor_17 : decode cX5_kindFor 17 = .ok (.ireturn, 1) := by decide +kernel
theorem dX5_kindFor_18 : decode cX5_kindFor 18 = .ok (.iconst 0, 1) := by decide +kernel
theorem dX5_kindFor_19 : decode cX5_kindFor 19 = .ok (.istore_n 2, 1) := by decide +kernel
theorem dX5_kindFor_20 : decode cX5_kindFor 20 = .ok (.iconst (-1), 1) := by decide +kernel
theorem dX5_kindFor_21 : decode cX5_kindFor 21 = .ok (.istore_n 3, 1) := by decide +kernel
theorem dX5_kindFor_22 : decode cX5_kindFor 22 = .ok (.ldc 207, 2) := by decide +kernel
theorem dX5_kindFor_24 : decode cX5_kindFor 24 = .ok (.istore 4, 2) := by decide +kernel
theorem dX5_kindFor_26 : decode cX5_kindFor 26 = .ok (.iconst 0, 1) := by decide +kernel
theorem dX5_kindFor_27 : decode cX5_kindFor 27 = .ok (.istore 5, 2) := by decide +kernel
theorem dX5_kindFor_29 : decode cX5_kindFor 29 = .ok (.iload 5, 2) := by decide +kernel
theorem dX5_kindFor_31 : decode cX5_kindFor 31 = .ok (.bipush 7, 2) := by decide +kernel
theorem dX5_kindFor_33 : decode cX5_kindFor 33 = .ok (.if_icmp .ge 95, 3) := by decide +kernel
theorem dX5_kindFor_36 : decode cX5_kindFor 36 = .ok (.aload_n 0, 1) := by decide +kernel
theorem dX5_kindFor_37 : decode cX5_kindFor 37 = .ok (.getfield 19, 3) := by decide +kernel
theorem dX5_kindFor_40 : decode cX5_kindFor 40 = .ok (.aload_n 0, 1) := by decide +kernel
theorem dX5_kindFor_41 : decode cX5_kindFor 41 = .ok (.getfield 10, 3) := by decide +kernel
theorem dX5_kindFor_44 : decode cX5_kindFor 44 = .ok (.invokevirtual 199, 3) := by decide +kernel
theorem dX5_kindFor_47 : decode cX5_kindFor 47 = .ok (.aload_n 0, 1) := by decide +kernel
theorem dX5_kindFor_48 : decode cX5_kindFor 48 = .ok (.getfield 19, 3) := by decide +kernel
theorem dX5_kindFor_51 : decode cX5_kindFor 51 = .ok (.iload_n 1, 1) := by decide +kernel
theorem dX5_kindFor_52 : decode cX5_kindFor 52 = .ok (.iload 5, 2) := by decide +kernel
theorem dX5_kindFor_54 : decode cX5_kindFor 54 = .ok (.invokevirtual 91, 3) := by decide +kernel
theorem dX5_kindFor_57 : decode cX5_kindFor 57 = .ok (.aload_n 0, 1) := by decide +kernel
theorem dX5_kindFor_58 : decode cX5_kindFor 58 = .ok (.getfield 19, 3) := by decide +kernel
theorem dX5_kindFor_61 : decode cX5_kindFor 61 = .ok (.invokevirtual 214, 3) := by decide +kernel
theorem dX5_kindFor_64 : decode cX5_kindFor 64 = .ok (.aload_n 0, 1) := by decide +kernel
theorem dX5_kindFor_65 : decode cX5_kindFor 65 = .ok (.getfield 25, 3) := by decide +kernel
theorem dX5_kindFor_68 : decode cX5_kindFor 68 = .ok (.aload_n 0, 1) := by decide +kernel
theorem dX5_kindFor_69 : decode cX5_kindFor 69 = .ok (.getfield 19, 3) := by decide +kernel
theorem dX5_kindFor_72 : decode cX5_kindFor 72 = .ok (.iconst 0, 1) := by decide +kernel
theorem dX5_kindFor_73 : decode cX5_kindFor 73 = .ok (.invokevirtual 185, 3) := by decide +kernel
theorem dX5_kindFor_76 : decode cX5_kindFor 76 = .ok (.istore 6, 2) := by decide +kernel
theorem dX5_kindFor_78 : decode cX5_kindFor 78 = .ok (.aload_n 0, 1) := by decide +kernel
theorem dX5_kindFor_79 : decode cX5_kindFor 79 = .ok (.getfield 19, 3) := by decide +kernel
theorem dX5_kindFor_82 : decode cX5_kindFor 82 = .ok (.getfield 113, 3) := by decide +kernel
theorem dX5_kindFor_85 : decode cX5_kindFor 85 = .ok (.iload_n 3, 1) := by decide +kernel
theorem dX5_kindFor_86 : decode cX5_kindFor 86 = .ok (.if_icmp .gt 21, 3) := by decide +kernel
theorem dX5_kindFor_89 : decode cX5_kindFor 89 = .ok (.aload_n 0, 1) := by decide +kernel
theorem dX5_kindFor_90 : decode cX5_kindFor 90 = .ok (.getfield 19, 3) := by decide +kernel
theorem dX5_kindFor_93 : decode cX5_kindFor 93 = .ok (.getfield 113, 3) := by decide +kernel
theorem dX5_kindFor_96 : decode cX5_kindFor 96 = .ok (.iload_n 3, 1) := by decide +kernel
theorem dX5_kindFor_97 : decode cX5_kindFor 97 = .ok (.if_icmp .ne 25, 3) := by decide +kernel
theorem dX5_kindFor_100 : decode cX5_kindFor 100 = .ok (.iload 6, 2) := by decide +kernel
theorem dX5_kindFor_102 : decode cX5_kindFor 102 = .ok (.iload 4, 2) := by decide +kernel
theorem dX5_kindFor_104 : decode cX5_kindFor 104 = .ok (.if_icmp .ge 18, 3) := by decide +kernel
theorem dX5_kindFor_107 : decode cX5_kindFor 107 = .ok (.iload 5, 2) := by decide +kernel
theorem dX5_kindFor_109 : decode cX5_kindFor 109 = .ok (.istore_n 2, 1) := by decide +kernel
theorem dX5_kindFor_110 : decode cX5_kindFor 110 = .ok (.aload_n 0, 1) := by decide +kernel
theorem dX5_kindFor_111 : decode cX5_kindFor 111 = .ok (.getfield 19, 3) := by decide +kernel
theorem dX5_kindFor_114 : decode cX5_kindFor 114 = .ok (.getfield 113, 3) := by decide +kernel
theorem dX5_kindFor_117 : decode cX5_kindFor 117 = .ok (.istore_n 3, 1) := by decide +kernel
theorem dX5_kindFor_118 : decode cX5_kindFor 118 = .ok (.iload 6, 2) := by decide +kernel
theorem dX5_kindFor_120 : decode cX5_kindFor 120 = .ok (.istore 4, 2) := by decide +kernel
theorem dX5_kindFor_122 : decode cX5_kindFor 122 = .ok (.iinc 5 1, 3) := by decide +kernel
theorem dX5_kindFor_125 : decode cX5_kindFor 125 = .ok (.goto (-96), 3) := by decide +kernel
theorem dX5_kindFor_128 : decode cX5_kindFor 128 = .ok (.iload_n 2, 1) := by decide +kernel
theorem dX5_kindFor_129 : decode cX5_kindFor 129 = .ok (.ireturn, 1) := by decide +kernel
theorem dX5_mayor_0 : decode cX5_mayor 0 = .ok (.aload_n 0, 1) := by decide +kernel
theorem dX5_mayor_1 : decode cX5_mayor 1 = .ok (.getfield 10, 3) := by decide +kernel
theorem dX5_mayor_4 : decode cX5_mayor 4 = .ok (.iload_n 1, 1) := by decide +kernel
theorem dX5_mayor_5 : decode cX5_mayor 5 = .ok (.invokevirtual 70, 3) := by decide +kernel
theorem dX5_mayor_8 : decode cX5_mayor 8 = .ok (.ifCond .ne 10, 3) := by decide +kernel
theorem dX5_mayor_11 : decode cX5_mayor 11 = .ok (.aload_n 0, 1) := by decide +kernel
theorem dX5_mayor_12 : decode cX5_mayor 12 = .ok (.ldc 57, 2) := by decide +kernel
theorem dX5_mayor_14 : decode cX5_mayor 14 = .ok (.invokevirtual 58, 3) := by decide +kernel
theorem dX5_mayor_17 : decode cX5_mayor 17 = .ok (.ireturn, 1) := by decide +kernel
theorem dX5_mayor_18 : decode cX5_mayor 18 = .ok (.iconst (-1), 1) := by decide +kernel
theorem dX5_mayor_19 : decode cX5_mayor 19 = .ok (.istore_n 2, 1) := by decide +kernel
theorem dX5_mayor_20 : decode cX5_mayor 20 = .ok (.ldc 207, 2) := by decide +kernel
theorem dX5_mayor_22 : decode cX5_mayor 22 = .ok (.istore_n 3, 1) := by decide +kernel
theorem dX5_mayor_23 : decode cX5_mayor 23 = .ok (.iconst 0, 1) := by decide +kernel
theorem dX5_mayor_24 : decode cX5_mayor 24 = .ok (.istore 4, 2) := by decide +kernel
theorem dX5_mayor_26 : decode cX5_mayor 26 = .ok (.iload 4, 2) := by decide +kernel
theorem dX5_mayor_28 : decode cX5_mayor 28 = .ok (.aload_n 0, 1) := by decide +kernel
theorem dX5_mayor_29 : decode cX5_mayor 29 = .ok (.getfield 10, 3) := by decide +kernel
theorem dX5_mayor_32 : decode cX5_mayor 32 = .ok (.getfield 62, 3) := by decide +kernel
theorem dX5_mayor_35 : decode cX5_mayor 35 = .ok (.if_icmp .ge 93, 3) := by decide +kernel
theorem dX5_mayor_38 : decode cX5_mayor 38 = .ok (.iload 4, 2) := by decide +kernel
theorem dX5_mayor_40 : decode cX5_mayor 40 = .ok (.iload_n 1, 1) := by decide +kernel
theorem dX5_mayor_41 : decode cX5_mayor 41 = .ok (.if_icmp .eq 81, 3) := by decide +kernel
theorem dX5_mayor_44 : decode cX5_mayor 44 = .ok (.aload_n 0, 1) := by decide +kernel
theorem dX5_mayor_45 : decode cX5_mayor 45 = .ok (.getfield 10, 3) := by decide +kernel
theorem dX5_mayor_48 : decode cX5_mayor 48 = .ok (.iload_n 1, 1) := by decide +kernel
theorem dX5_mayor_49 : decode cX5_mayor 49 = .ok (.iload 4, 2) := by decide +kernel
theorem dX5_mayor_51 : decode cX5_mayor 51 = .ok (.invokevirtual 217, 3) := by decide +kernel
theorem dX5_mayor_54 : decode cX5_mayor 54 = .ok (.ifCond .eq 6, 3) := by decide +kernel
theorem dX5_mayor_57 : decode cX5_mayor 57 = .ok (.goto 65, 3) := by decide +kernel
theorem dX5_mayor_60 : decode cX5_mayor 60 = .ok (.aload_n 0, 1) := by decide +kernel
theorem dX5_mayor_61 : decode cX5_mayor 61 = .ok (.getfield 19, 3) := by decide +kernel
theorem dX5_mayor_64 : decode cX5_mayor 64 = .ok (.aload_n 0, 1) := by decide +kernel
theorem dX5_mayor_65 : decode cX5_mayor 65 = .ok (.getfield 10, 3) := by decide +kernel
theorem dX5_mayor_68 : decode cX5_mayor 68 = .ok (.invokevirtual 199, 3) := by decide +kernel
theorem dX5_mayor_71 : decode cX5_mayor 71 = .ok (.aload_n 0, 1) := by decide +kernel
theorem dX5_mayor_72 : decode cX5_mayor 72 = .ok (.getfield 19, 3) := by decide +kernel
theorem dX5_mayor_75 : decode cX5_mayor 75 = .ok (.iload 4, 2) := by decide +kernel
theorem dX5_mayor_77 : decode cX5_mayor 77 = .ok (.iload_n 1, 1) := by decide +kernel
theorem dX5_mayor_78 : decode cX5_mayor 78 = .ok (.invokevirtual 221, 3) := by decide +kernel
theorem dX5_mayor_81 : decode cX5_mayor 81 = .ok (.aload_n 0, 1) := by decide +kernel
theorem dX5_mayor_82 : decode cX5_mayor 82 = .ok (.getfield 19, 3) := by decide +kernel
theorem dX5_mayor_85 : decode cX5_mayor 85 = .ok (.invokevirtual 181, 3) := by decide +kernel
theorem dX5_mayor_88 : decode cX5_mayor 88 = .ok (.ifCond .eq 18, 3) := by decide +kernel
theorem dX5_mayor_91 : decode cX5_mayor 91 = .ok (.aload_n 0, 1) := by decide +kernel
theorem dX5_mayor_92 : decode cX5_mayor 92 = .ok (.getfield 25, 3) := by decide +kernel
theorem dX5_mayor_95 : decode cX5_mayor 95 = .ok (.aload_n 0, 1) := by decide +kernel
theorem dX5_mayor_96 : decode cX5_mayor 96 = .ok (.getfield 19, 3) := by decide +kernel
theorem dX5_mayor_99 : decode cX5_mayor 99 = .ok (.iconst 0, 1) := by decide +kernel
theorem dX5_mayor_100 : decode cX5_mayor 100 = .ok (.invokevirtual 185, 3) := by decide +kernel
theorem dX5_mayor_103 : decode cX5_mayor 103 = .ok (.goto 5, 3) := by decide +kernel
theorem dX5_mayor_106 : decode cX5_mayor 106 = .ok (.ldc 207, 2) := by decide +kernel
theorem dX5_mayor_108 : decode cX5_mayor 108 = .ok (.istore 5, 2) := by decide +kernel
theorem dX5_mayor_110 : decode cX5_mayor 110 = .ok (.iload 5, 2) := by decide +kernel
theorem dX5_mayor_112 : decode cX5_mayor 112 = .ok (.iload_n 3, 1) := by decide +kernel
theorem dX5_mayor_113 : decode cX5_mayor 113 = .ok (.if_icmp .ge 9, 3) := by decide +kernel
theorem dX5_mayor_116 : decode cX5_mayor 116 = .ok (.iload 4, 2) := by decide +kernel
theorem dX5_mayor_118 : decode cX5_mayor 118 = .ok (.istore_n 2, 1) := by decide +kernel
theorem dX5_mayor_119 : decode cX5_mayor 119 = .ok (.iload 5, 2) := by decide +kernel
theorem dX5_mayor_121 : decode cX5_mayor 121 = .ok (.istore_n 3, 1) := by decide +kernel
theorem dX5_mayor_122 : decode cX5_mayor 122 = .ok (.iinc 4 1, 3) := by decide +kernel
theorem dX5_mayor_125 : decode cX5_mayor 125 = .ok (.goto (-99), 3) := by decide +kernel
theorem dX5_mayor_128 : decode cX5_mayor 128 = .ok (.iload_n 2, 1) := by decide +kernel
theorem dX5_mayor_129 : decode cX5_mayor 129 = .ok (.iconst (-1), 1) := by decide +kernel
theorem dX5_mayor_130 : decode cX5_mayor 130 = .ok (.if_icmp .ne 12, 3) := by decide +kernel
theorem dX5_mayor_133 : decode cX5_mayor 133 = .ok (.aload_n 0, 1) := by decide +kernel
theorem dX5_mayor_134 : decode cX5_mayor 134 = .ok (.ldc 206, 2) := by decide +kernel
theorem dX5_mayor_136 : decode cX5_mayor 136 = .ok (.invokevirtual 58, 3) := by decide +kernel
theorem dX5_mayor_139 : decode cX5_mayor 139 = .ok (.goto 4, 3) := by decide +kernel
theorem dX5_mayor_142 : decode cX5_mayor 142 = .ok (.iload_n 2, 1) := by decide +kernel
theorem dX5_mayor_143 : decode cX5_mayor 143 = .ok (.ireturn, 1) := by decide +kernel
theorem dX5_leave_0 : decode cX5_leave 0 = .ok (.iload_n 1, 1) := by decide +kernel
theorem dX5_leave_1 : decode cX5_leave 1 = .ok (.ifCond .lt 9, 3) := by decide +kernel
theorem dX5_leave_4 : decode cX5_leave 4 = .ok (.iload_n 1, 1) := by decide +kernel
theorem dX5_leave_5 : decode cX5_leave 5 = .ok (.bipush 99, 2) := by decide +kernel
theorem dX5_leave_7 : decode cX5_leave 7 = .ok (.if_icmp .le 10, 3) := by decide +kernel
theorem dX5_leave_10 : decode cX5_leave 10 = .ok (.aload_n 0, 1) := by decide +kernel
theorem dX5_leave_11 : decode cX5_leave 11 = .ok (.ldc 57, 2) := by decide +kernel
theorem dX5_leave_13 : decode cX5_leave 13 = .ok (.invokevirtual 58, 3) := by decide +kernel
theorem dX5_leave_16 : decode cX5_leave 16 = .ok (.ireturn, 1) := by decide +kernel
theorem dX5_leave_17 : decode cX5_leave 17 = .ok (.aload_n 0, 1) := by decide +kernel
theorem dX5_leave_18 : decode cX5_leave 18 = .ok (.getfield 25, 3) := by decide +kernel
theorem dX5_leave_21 : decode cX5_leave 21 = .ok (.aload_n 0, 1) := by decide +kernel
theorem dX5_leave_22 : decode cX5_leave 22 = .ok (.getfield 10, 3) := by decide +kernel
theorem dX5_leave_25 : decode cX5_leave 25 = .ok (.iload_n 1, 1) := by decide +kernel
theorem dX5_leave_26 : decode cX5_leave 26 = .ok (.invokevirtual 224, 3) := by decide +kernel
theorem dX5_leave_29 : decode cX5_leave 29 = .ok (.ireturn, 1) := by decide +kernel
theorem dX5_fits_0 : decode cX5_fits 0 = .ok (.aload_n 0, 1) := by decide +kernel
theorem dX5_fits_1 : decode cX5_fits 1 = .ok (.iload_n 1, 1) := by decide +kernel
theorem dX5_fits_2 : decode cX5_fits 2 = .ok (.invokevirtual 227, 3) := by decide +kernel
theorem dX5_fits_5 : decode cX5_fits 5 = .ok (.astore_n 2, 1) := by decide +kernel
theorem dX5_fits_6 : decode cX5_fits 6 = .ok (.aload_n 2, 1) := by decide +kernel
theorem dX5_fits_7 : decode cX5_fits 7 = .ok (.ifnonnull 10, 3) := by decide +kernel
theorem dX5_fits_10 : decode cX5_fits 10 = .ok (.aload_n 0, 1) := by decide +kernel
theorem dX5_fits_11 : decode cX5_fits 11 = .ok (.ldc 57, 2) := by decide +kernel
theorem dX5_fits_13 : decode cX5_fits 13 = .ok (.invokevirtual 58, 3) := by decide +kernel
theorem dX5_fits_16 : decode cX5_fits 16 = .ok (.ireturn, 1) := by decide +kernel
theorem dX5_fits_17 : decode cX5_fits 17 = .ok (.aload_n 2, 1) := by decide +kernel
theorem dX5_fits_18 : decode cX5_fits 18 = .ok (.invokevirtual 231, 3) := by decide +kernel
theorem dX5_fits_21 : decode cX5_fits 21 = .ok (.ifCond .eq 10, 3) := by decide +kernel
theorem dX5_fits_24 : decode cX5_fits 24 = .ok (.aload_n 0, 1) := by decide +kernel
theorem dX5_fits_25 : decode cX5_fits 25 = .ok (.ldc 234, 2) := by decide +kernel
theorem dX5_fits_27 : decode cX5_fits 27 = .ok (.invokevirtual 58, 3) := by decide +kernel
theorem dX5_fits_30 : decode cX5_fits 30 = .ok (.ireturn, 1) := by decide +kernel
theorem dX5_fits_31 : decode cX5_fits 31 = .ok (.aload_n 0, 1) := by decide +kernel
theorem dX5_fits_32 : decode cX5_fits 32 = .ok (.aload_n 2, 1) := by decide +kernel
theorem dX5_fits_33 : decode cX5_fits 33 = .ok (.invokevirtual 235, 3) := by decide +kernel
theorem dX5_fits_36 : decode cX5_fits 36 = .ok (.lstore_n 3, 1) := by decide +kernel
theorem dX5_fits_37 : decode cX5_fits 37 = .ok (.lload_n 3, 1) := by decide +kernel
theorem dX5_fits_38 : decode cX5_fits 38 = .ok (.ldc2_w 239, 3) := by decide +kernel
theorem dX5_fits_41 : decode cX5_fits 41 = .ok (.lcmp, 1) := by decide +kernel
theorem dX5_fits_42 : decode cX5_fits 42 = .ok (.ifCond .le 12, 3) := by decide +kernel
theorem dX5_fits_45 : decode cX5_fits 45 = .ok (.aload_n 0, 1) := by decide +kernel
theorem dX5_fits_46 : decode cX5_fits 46 = .ok (.ldc 241, 2) := by decide +kernel
theorem dX5_fits_48 : decode cX5_fits 48 = .ok (.invokevirtual 58, 3) := by decide +kernel
theorem dX5_fits_51 : decode cX5_fits 51 = .ok (.goto 5, 3) := by decide +kernel
theorem dX5_fits_54 : decode cX5_fits 54 = .ok (.lload_n 3, 1) := by decide +kernel
theorem dX5_fits_55 : decode cX5_fits 55 = .ok (.l2i, 1) := by decide +kernel
theorem dX5_fits_56 : decode cX5_fits 56 = .ok (.ireturn, 1) := by decide +kernel
theorem dX5_maybe_0 : decode cX5_maybe 0 = .ok (.aload_n 0, 1) := by decide +kernel
theorem dX5_maybe_1 : decode cX5_maybe 1 = .ok (.iload_n 1, 1) := by decide +kernel
theorem dX5_maybe_2 : decode cX5_maybe 2 = .ok (.invokevirtual 227, 3) := by decide +kernel
theorem dX5_maybe_5 : decode cX5_maybe 5 = .ok (.astore_n 3, 1) := by decide +kernel
theorem dX5_maybe_6 : decode cX5_maybe 6 = .ok (.aload_n 3, 1) := by decide +kernel
theorem dX5_maybe_7 : decode cX5_maybe 7 = .ok (.ifnonnull 10, 3) := by decide +kernel
theorem dX5_maybe_10 : decode cX5_maybe 10 = .ok (.aload_n 0, 1) := by decide +kernel
theorem dX5_maybe_11 : decode cX5_maybe 11 = .ok (.ldc 57, 2) := by decide +kernel
theorem dX5_maybe_13 : decode cX5_maybe 13 = .ok (.invokevirtual 58, 3) := by decide +kernel
theorem dX5_maybe_16 : decode cX5_maybe 16 = .ok (.ireturn, 1) := by decide +kernel
theorem dX5_maybe_17 : decode cX5_maybe 17 = .ok (.aload_n 3, 1) := by decide +kernel
theorem dX5_maybe_18 : decode cX5_maybe 18 = .ok (.invokevirtual 231, 3) := by decide +kernel
theorem dX5_maybe_21 : decode cX5_maybe 21 = .ok (.ifCond .eq 10, 3) := by decide +kernel
theorem dX5_maybe_24 : decode cX5_maybe 24 = .ok (.aload_n 0, 1) := by decide +kernel
theorem dX5_maybe_25 : decode cX5_maybe 25 = .ok (.ldc 234, 2) := by decide +kernel
theorem dX5_maybe_27 : decode cX5_maybe 27 = .ok (.invokevirtual 58, 3) := by decide +kernel
theorem dX5_maybe_30 : decode cX5_maybe 30 = .ok (.ireturn, 1) := by decide +kernel
theorem dX5_maybe_31 : decode cX5_maybe 31 = .ok (.aload_n 0, 1) := by decide +kernel
theorem dX5_maybe_32 : decode cX5_maybe 32 = .ok (.getfield 10, 3) := by decide +kernel
theorem dX5_maybe_35 : decode cX5_maybe 35 = .ok (.iload_n 2, 1) := by decide +kernel
theorem dX5_maybe_36 : decode cX5_maybe 36 = .ok (.invokevirtual 120, 3) := by decide +kernel
theorem dX5_maybe_39 : decode cX5_maybe 39 = .ok (.ifCond .ne 10, 3) := by decide +kernel
theorem dX5_maybe_42 : decode cX5_maybe 42 = .ok (.aload_n 0, 1) := by decide +kernel
theorem dX5_maybe_43 : decode cX5_maybe 43 = .ok (.ldc 57, 2) := by decide +kernel
theorem dX5_maybe_45 : decode cX5_maybe 45 = .ok (.invokevirtual 58, 3) := by decide +kernel
theorem dX5_maybe_48 : decode cX5_maybe 48 = .ok (.ireturn, 1) := by decide +kernel
theorem dX5_maybe_49 : decode cX5_maybe 49 = .ok (.aload_n 0, 1) := by decide +kernel
theorem dX5_maybe_50 : decode cX5_maybe 50 = .ok (.aload_n 3, 1) := by decide +kernel
theorem dX5_maybe_51 : decode cX5_maybe 51 = .ok (.invokevirtual 235, 3) := by decide +kernel
theorem dX5_maybe_54 : decode cX5_maybe 54 = .ok (.lconst 0, 1) := by decide +kernel
theorem dX5_maybe_55 : decode cX5_maybe 55 = .ok (.lcmp, 1) := by decide +kernel
theorem dX5_maybe_56 : decode cX5_maybe 56 = .ok (.ifCond .ne 7, 3) := by decide +kernel
theorem dX5_maybe_59 : decode cX5_maybe 59 = .ok (.iconst 0, 1) := by decide +kernel
theorem dX5_maybe_60 : decode cX5_maybe 60 = .ok (.goto 9, 3) := by decide +kernel
theorem dX5_maybe_63 : decode cX5_maybe 63 = .ok (.aload_n 0, 1) := by decide +kernel
theorem dX5_maybe_64 : decode cX5_maybe 64 = .ok (.aload_n 3, 1) := by decide +kernel
theorem dX5_maybe_65 : decode cX5_maybe 65 = .ok (.iload_n 2, 1) := by decide +kernel
theorem dX5_maybe_66 : decode cX5_maybe 66 = .ok (.invokevirtual 242, 3) := by decide +kernel
theorem dX5_maybe_69 : decode cX5_maybe 69 = .ok (.ireturn, 1) := by decide +kernel
theorem dX5_dogs_0 : decode cX5_dogs 0 = .ok (.iconst 0, 1) := by decide +kernel
theorem dX5_dogs_1 : decode cX5_dogs 1 = .ok (.istore_n 1, 1) := by decide +kernel
theorem dX5_dogs_2 : decode cX5_dogs 2 = .ok (.iconst 0, 1) := by decide +kernel
theorem dX5_dogs_3 : decode cX5_dogs 3 = .ok (.istore_n 2, 1) := by decide +kernel
theorem dX5_dogs_4 : decode cX5_dogs 4 = .ok (.iload_n 2, 1) := by decide +kernel
theorem dX5_dogs_5 : decode cX5_dogs 5 = .ok (.aload_n 0, 1) := by decide +kernel
theorem dX5_dogs_6 : decode cX5_dogs 6 = .ok (.getfield 10, 3) := by decide +kernel
theorem dX5_dogs_9 : decode cX5_dogs 9 = .ok (.getfield 113, 3) := by decide +kernel
theorem dX5_dogs_12 : decode cX5_dogs 12 = .ok (.if_icmp .ge 26, 3) := by decide +kernel
theorem dX5_dogs_15 : decode cX5_dogs 15 = .ok (.aload_n 0, 1) := by decide +kernel
theorem dX5_dogs_16 : decode cX5_dogs 16 = .ok (.getfield 10, 3) := by decide +kernel
theorem dX5_dogs_19 : decode cX5_dogs 19 = .ok (.iload_n 2, 1) := by decide +kernel
theorem dX5_dogs_20 : decode cX5_dogs 20 = .ok (.invokevirtual 246, 3) := by decide +kernel
theorem dX5_dogs_23 : decode cX5_dogs 23 = .ok (.ifCond .le 9, 3) := by decide +kernel
theorem dX5_dogs_26 : decode cX5_dogs 26 = .ok (.iload_n 1, 1) := by decide +kernel
theorem dX5_dogs_27 : decode cX5_dogs 27 = .ok (.iconst 1, 1) := by decide +kernel
theorem dX5_dogs_28 : decode cX5_dogs 28 = .ok (.iload_n 2, 1) := by decide +kernel
theorem dX5_dogs_29 : decode cX5_dogs 29 = .ok (.ishl, 1) := by decide +kernel
theorem dX5_dogs_30 : decode cX5_dogs 30 = .ok (.ior, 1) := by decide +kernel
theorem dX5_dogs_31 : decode cX5_dogs 31 = .ok (.istore_n 1, 1) := by decide +kernel
theorem dX5_dogs_32 : decode cX5_dogs 32 = .ok (.iinc 2 1, 3) := by decide +kernel
theorem dX5_dogs_35 : decode cX5_dogs 35 = .ok (.goto (-31), 3) := by decide +kernel
theorem dX5_dogs_38 : decode cX5_dogs 38 = .ok (.iload_n 1, 1) := by decide +kernel
theorem dX5_dogs_39 : decode cX5_dogs 39 = .ok (.ireturn, 1) := by decide +kernel
theorem dX5_stays_0 : decode cX5_stays 0 = .ok (.iload_n 1, 1) := by decide +kernel
theorem dX5_stays_1 : decode cX5_stays 1 = .ok (.ifCond .lt 8, 3) := by decide +kernel
theorem dX5_stays_4 : decode cX5_stays 4 = .ok (.iload_n 1, 1) := by decide +kernel
theorem dX5_stays_5 : decode cX5_stays 5 = .ok (.iconst 1, 1) := by decide +kernel
theorem dX5_stays_6 : decode cX5_stays 6 = .ok (.if_icmp .le 11, 3) := by decide +kernel
theorem dX5_stays_9 : decode cX5_stays 9 = .ok (.aload_n 0, 1) := by decide +kernel
theorem dX5_stays_10 : decode cX5_stays 10 = .ok (.ldc 57, 2) := by decide +kernel
theorem dX5_stays_12 : decode cX5_stays 12 = .ok (.invokevirtual 58, 3) := by decide +kernel
theorem dX5_stays_15 : decode cX5_stays 15 = .ok (.i2l, 1) := by decide +kernel
theorem dX5_stays_16 : decode cX5_stays 16 = .ok (.lreturn, 1) := by decide +kernel
theorem dX5_stays_17 : decode cX5_stays 17 = .ok (.bipush 10, 2) := by decide +kernel
theorem dX5_stays_19 : decode cX5_stays 19 = .ok (.aload_n 0, 1) := by decide +kernel
theorem dX5_stays_20 : decode cX5_stays 20 = .ok (.getfield 10, 3) := by decide +kernel
theorem dX5_stays_23 : decode cX5_stays 23 = .ok (.getfield 104, 3) := by decide +kernel
theorem dX5_stays_26 : decode cX5_stays 26 = .ok (.isub, 1) := by decide +kernel
theorem dX5_stays_27 : decode cX5_stays 27 = .ok (.istore_n 2, 1) := by decide +kernel
theorem dX5_stays_28 : decode cX5_stays 28 = .ok (.bipush 10, 2) := by decide +kernel
theorem dX5_stays_30 : decode cX5_stays 30 = .ok (.istore_n 3, 1) := by decide +kernel
theorem dX5_stays_31 : decode cX5_stays 31 = .ok (.iload_n 2, 1) := by decide +kernel
theorem dX5_stays_32 : decode cX5_stays 32 = .ok (.iconst 2, 1) := by decide +kernel
theorem dX5_stays_33 : decode cX5_stays 33 = .ok (.irem, 1) := by decide +kernel
theorem dX5_stays_34 : decode cX5_stays 34 = .ok (.ifCond .ne 11, 3) := by decide +kernel
theorem dX5_stays_37 : decode cX5_stays 37 = .ok (.iload_n 2, 1) := by decide +kernel
theorem dX5_stays_38 : decode cX5_stays 38 = .ok (.iconst 2, 1) := by decide +kernel
theorem dX5_stays_39 : decode cX5_stays 39 = .ok (.idiv, 1) := by decide +kernel
theorem dX5_stays_40 : decode cX5_stays 40 = .ok (.istore_n 2, 1) := by decide +kernel
theorem dX5_stays_41 : decode cX5_stays 41 = .ok (.iload_n 3, 1) := by decide +kernel
theorem dX5_stays_42 : decode cX5_stays 42 = .ok (.iconst 2, 1) := by decide +kernel
theorem dX5_stays_43 : decode cX5_stays 43 = .ok (.idiv, 1) := by decide +kernel
theorem dX5_stays_44 : decode cX5_stays 44 = .ok (.istore_n 3, 1) := by decide +kernel
theorem dX5_stays_45 : decode cX5_stays 45 = .ok (.iload_n 2, 1) := by decide +kernel
theorem dX5_stays_46 : decode cX5_stays 46 = .ok (.iconst 5, 1) := by decide +kernel
theorem dX5_stays_47 : decode cX5_stays 47 = .ok (.irem, 1) := by decide +kernel
theorem dX5_stays_48 : decode cX5_stays 48 = .ok (.ifCond .ne 11, 3) := by decide +kernel
theorem dX5_stays_51 : decode cX5_stays 51 = .ok (.iload_n 2, 1) := by decide +kernel
theorem dX5_stays_52 : decode cX5_stays 52 = .ok (.iconst 5, 1) := by decide +kernel
theorem dX5_stays_53 : decode cX5_stays 53 = .ok (.idiv, 1) := by decide +kernel
theorem dX5_stays_54 : decode cX5_stays 54 = .ok (.istore_n 2, 1) := by decide +kernel
theorem dX5_stays_55 : decode cX5_stays 55 = .ok (.iload_n 3, 1) := by decide +kernel
theorem dX5_stays_56 : decode cX5_stays 56 = .ok (.iconst 5, 1) := by decide +kernel
theorem dX5_stays_57 : decode cX5_stays 57 = .ok (.idiv, 1) := by decide +kernel
theorem dX5_stays_58 : decode cX5_stays 58 = .ok (.istore_n 3, 1) := by decide +kernel
theorem dX5_stays_59 : decode cX5_stays 59 = .ok (.lconst 1, 1) := by decide +kernel
theorem dX5_stays_60 : decode cX5_stays 60 = .ok (.lstore 4, 2) := by decide +kernel
theorem dX5_stays_62 : decode cX5_stays 62 = .ok (.lconst 1, 1) := by decide +kernel
theorem dX5_stays_63 : decode cX5_stays 63 = .ok (.lstore 6, 2) := by decide +kernel
theorem dX5_stays_65 : decode cX5_stays 65 = .ok (.aload_n 0, 1) := by decide +kernel
theorem dX5_stays_66 : decode cX5_stays 66 = .ok (.getfield 10, 3) := by decide +kernel
theorem dX5_stays_69 : decode cX5_stays 69 = .ok (.invokevirtual 249, 3) := by decide +kernel
theorem dX5_stays_72 : decode cX5_stays 72 = .ok (.istore 8, 2) := by decide +kernel
theorem dX5_stays_74 : decode cX5_stays 74 = .ok (.iconst 0, 1) := by decide +kernel
theorem dX5_stays_75 : decode cX5_stays 75 = .ok (.istore 9, 2) := by decide +kernel
theorem dX5_stays_77 : decode cX5_stays 77 = .ok (.iload 9, 2) := by decide +kernel
theorem dX5_stays_79 : decode cX5_stays 79 = .ok (.iload 8, 2) := by decide +kernel
theorem dX5_stays_81 : decode cX5_stays 81 = .ok (.if_icmp .ge 40, 3) := by decide +kernel
theorem dX5_stays_84 : decode cX5_stays 84 = .ok (.lload 4, 2) := by decide +kernel
theorem dX5_stays_86 : decode cX5_stays 86 = .ok (.iload_n 2, 1) := by decide +kernel
theorem dX5_stays_87 : decode cX5_stays 87 = .ok (.i2l, 1) := by decide +kernel
theorem dX5_stays_88 : decode cX5_stays 88 = .ok (.lmul, 1) := by decide +kernel
theorem dX5_stays_89 : decode cX5_stays 89 = .ok (.lstore 4, 2) := by decide +kernel
theorem dX5_stays_91 : decode cX5_stays 91 = .ok (.lload 6, 2) := by decide +kernel
theorem dX5_stays_93 : decode cX5_stays 93 = .ok (.iload_n 3, 1) := by decide +kernel
theorem dX5_stays_94 : decode cX5_stays 94 = .ok (.i2l, 1) := by decide +kernel
theorem dX5_stays_95 : decode cX5_stays 95 = .ok (.lmul, 1) := by decide +kernel
theorem dX5_stays_96 : decode cX5_stays 96 = .ok (.lstore 6, 2) := by decide +kernel
theorem dX5_stays_98 : decode cX5_stays 98 = .ok (.lload 6, 2) := by decide +kernel
theorem dX5_stays_100 : decode cX5_stays 100 = .ok (.ldc2_w 252, 3) := by decide +kernel
theorem dX5_stays_103 : decode cX5_stays 103 = .ok (.lcmp, 1) := by decide +kernel
theorem dX5_stays_104 : decode cX5_stays 104 = .ok (.ifCond .le 11, 3) := by decide +kernel
theorem dX5_stays_107 : decode cX5_stays 107 = .ok (.aload_n 0, 1) := by decide +kernel
theorem dX5_stays_108 : decode cX5_stays 108 = .ok (.ldc 241, 2) := by decide +kernel
theorem dX5_stays_110 : decode cX5_stays 110 = .ok (.invokevirtual 58, 3) := by decide +kernel
theorem dX5_stays_113 : decode cX5_stays 113 = .ok (.i2l, 1) := by decide +kernel
theorem dX5_stays_114 : decode cX5_stays 114 = .ok (.lreturn, 1) := by decide +kernel
theorem dX5_stays_115 : decode cX5_stays 115 = .ok (.iinc 9 1, 3) := by decide +kernel
theorem dX5_stays_118 : decode cX5_stays 118 = .ok (.goto (-41), 3) := by decide +kernel
theorem dX5_stays_121 : decode cX5_stays 121 = .ok (.iload_n 1, 1) := by decide +kernel
theorem dX5_stays_122 : decode cX5_stays 122 = .ok (.ifCond .ne 8, 3) := by decide +kernel
theorem dX5_stays_125 : decode cX5_stays 125 = .ok (.lload 4, 2) := by decide +kernel
theorem dX5_stays_127 : decode cX5_stays 127 = .ok (.goto 5, 3) := by decide +kernel
theorem dX5_stays_130 : decode cX5_stays 130 = .ok (.lload 6, 2) := by decide +kernel
theorem dX5_stays_132 : decode cX5_stays 132 = .ok (.lreturn, 1) := by decide +kernel
