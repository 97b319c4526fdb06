theorem dX3_init_0 : decode cX3_init 0 = .ok (.aload_n 0, 1) := by decide +kernel
theorem dX3_init_1 : decode cX3_init 1 = .ok (.invokespecial 3, 3) := by decide +kernel
theorem dX3_init_4 : decode cX3_init 4 = .ok (.aload_n 0, 1) := by decide +kernel
theorem dX3_init_5 : decode cX3_init 5 = .ok (.bipush 120, 2) := by decide +kernel
theorem dX3_init_7 : decode cX3_init 7 = .ok (.newarray .int, 2) := by decide +kernel
theorem dX3_init_9 : decode cX3_init 9 = .ok (.putfield 9, 3) := by decide +kernel
theorem dX3_init_12 : decode cX3_init 12 = .ok (.return_, 1) := by decide +kernel
theorem dX3_append_0 : decode cX3_append 0 = .ok (.aload_n 0, 1) := by decide +kernel
theorem dX3_append_1 : decode cX3_append 1 = .ok (.getfield 15, 3) := by decide +kernel
theorem dX3_append_4 : decode cX3_append 4 = .ok (.ifCond .lt 35, 3) := by decide +kernel
theorem dX3_append_7 : decode cX3_append 7 = .ok (.aload_n 0, 1) := by decide +kernel
theorem dX3_append_8 : decode cX3_append 8 = .ok (.getfield 15, 3) := by decide +kernel
theorem dX3_append_11 : decode cX3_append 11 = .ok (.aload_n 0, 1) := by decide +kernel
theorem dX3_append_12 : decode cX3_append 12 = .ok (.getfield 9, 3) := by decide +kernel
theorem dX3_append_15 : decode cX3_append 15 = .ok (.arraylength, 1) := by decide +kernel
theorem dX3_append_16 : decode cX3_append 16 = .ok (.if_icmp .ge 23, 3) := by decide +kernel
theorem dX3_append_19 : decode cX3_append 19 = .ok (.aload_n 0, 1) := by decide +kernel
theorem dX3_append_20 : decode cX3_append 20 = .ok (.getfield 9, 3) := by decide +kernel
theorem dX3_append_23 : decode cX3_append 23 = .ok (.aload_n 0, 1) := by decide +kernel
theorem dX3_append_24 : decode cX3_append 24 = .ok (.getfield 15, 3) := by decide +kernel
theorem dX3_append_27 : decode cX3_append 27 = .ok (.iload_n 1, 1) := by decide +kernel
theorem dX3_append_28 : decode cX3_append 28 = .ok (.iastore, 1) := by decide +kernel
theorem dX3_append_29 : decode cX3_append 29 = .ok (.aload_n 0, 1) := by decide +kernel
theorem dX3_append_30 : decode cX3_append 30 = .ok (.dup, 1) := by decide +kernel
theorem dX3_append_31 : decode cX3_append 31 = .ok (.getfield 15, 3) := by decide +kernel
theorem dX3_append_34 : decode cX3_append 34 = .ok (.iconst 1, 1) := by decide +kernel
theorem dX3_append_35 : decode cX3_append 35 = .ok (.iadd, 1) := by decide +kernel
theorem dX3_append_36 : decode cX3_append 36 = .ok (.putfield 15, 3) := by decide +kernel
theorem dX3_append_39 : decode cX3_append 39 = .ok (.return_, 1) := by decide +kernel
theorem dX3_read_0 : decode cX3_read 0 = .ok (.aload_n 0, 1) := by decide +kernel
theorem dX3_read_1 : decode cX3_read 1 = .ok (.iconst 0, 1) := by decide +kernel
theorem dX3_read_2 : decode cX3_read 2 = .ok (.putfield 19, 3) := by decide +kernel
theorem dX3_read_5 : decode cX3_read 5 = .ok (.aload_n 0, 1) := by decide +kernel
theorem dX3_read_6 : decode cX3_read 6 = .ok (.iconst 0, 1) := by decide +kernel
theorem dX3_read_7 : decode cX3_read 7 = .ok (.putfield 22, 3) := by decide +kernel
theorem dX3_read_10 : decode cX3_read 10 = .ok (.aload_n 0, 1) := by decide +kernel
theorem dX3_read_11 : decode cX3_read 11 = .ok (.invokevirtual 25, 3) := by decide +kernel
theorem dX3_read_14 : decode cX3_read 14 = .ok (.iconst 0, 1) := by decide +kernel
theorem dX3_read_15 : decode cX3_read 15 = .ok (.istore_n 2, 1) := by decide +kernel
theorem dX3_read_16 : decode cX3_read 16 = .ok (.iload_n 2, 1) := by decide +kernel
theorem dX3_read_17 : decode cX3_read 17 = .ok (.bipush 120, 2) := by decide +kernel
theorem dX3_read_19 : decode cX3_read 19 = .ok (.if_icmp .gt 58, 3) := by decide +kernel
theorem dX3_read_22 : decode cX3_read 22 = .ok (.aload_n 0, 1) := by decide +kernel
theorem dX3_read_23 : decode cX3_read 23 = .ok (.aload_n 1, 1) := by decide +kernel
theorem dX3_read_24 : decode cX3_read 24 = .ok (.invokevirtual 28, 3) := by decide +kernel
theorem dX3_read_27 : decode cX3_read 27 = .ok (.ifCond .ne 8, 3) := by decide +kernel
theorem dX3_read_30 : decode cX3_read 30 = .ok (.aload_n 0, 1) := by decide +kernel
theorem dX3_read_31 : decode cX3_read 31 = .ok (.getfield 32, 3) := by decide +kernel
theorem dX3_read_34 : decode cX3_read 34 = .ok (.ireturn, 1) := by decide +kernel
theorem dX3_read_35 : decode cX3_read 35 = .ok (.aload_n 0, 1) := by decide +kernel
theorem dX3_read_36 : decode cX3_read 36 = .ok (.dup, 1) := by decide +kernel
theorem dX3_read_37 : decode cX3_read 37 = .ok (.getfield 19, 3) := by decide +kernel
theorem dX3_read_40 : decode cX3_read 40 = .ok (.iconst 1, 1) := by decide +kernel
theorem dX3_read_41 : decode cX3_read 41 = .ok (.iadd, 1) := by decide +kernel
theorem dX3_read_42 : decode cX3_read 42 = .ok (.putfield 19, 3) := by decide +kernel
theorem dX3_read_45 : decode cX3_read 45 = .ok (.aload_n 0, 1) := by decide +kernel
theorem dX3_read_46 : decode cX3_read 46 = .ok (.getfield 35, 3) := by decide +kernel
theorem dX3_read_49 : decode cX3_read 49 = .ok (.ifCond .ne 5, 3) := by decide +kernel
theorem dX3_read_52 : decode cX3_read 52 = .ok (.iconst (-1), 1) := by decide +kernel
theorem dX3_read_53 : decode cX3_read 53 = .ok (.ireturn, 1) := by decide +kernel
theorem dX3_read_54 : decode cX3_read 54 = .ok (.aload_n 0, 1) := by decide +kernel
theorem dX3_read_55 : decode cX3_read 55 = .ok (.getfield 35, 3) := by decide +kernel
theorem dX3_read_58 : decode cX3_read 58 = .ok (.iconst 3, 1) := by decide +kernel
theorem dX3_read_59 : decode cX3_read 59 = .ok (.if_icmp .eq 8, 3) := by decide +kernel
theorem dX3_read_62 : decode cX3_read 62 = .ok (.aload_n 0, 1) := by decide +kernel
theorem dX3_read_63 : decode cX3_read 63 = .ok (.getfield 32, 3) := by decide +kernel
theorem dX3_read_66 : decode cX3_read 66 = .ok (.ireturn, 1) := by decide +kernel
theorem dX3_read_67 : decode cX3_read 67 = .ok (.aload_n 0, 1) := by decide +kernel
theorem dX3_read_68 : decode cX3_read 68 = .ok (.invokevirtual 25, 3) := by decide +kernel
theorem dX3_read_71 : decode cX3_read 71 = .ok (.iinc 2 1, 3) := by decide +kernel
theorem dX3_read_74 : decode cX3_read 74 = .ok (.goto (-58), 3) := by decide +kernel
theorem dX3_read_77 : decode cX3_read 77 = .ok (.aload_n 0, 1) := by decide +kernel
theorem dX3_read_78 : decode cX3_read 78 = .ok (.getfield 32, 3) := by decide +kernel
theorem dX3_read_81 : decode cX3_read 81 = .ok (.ireturn, 1) := by decide +kernel
theorem dX3_readItem_0 : decode cX3_readItem 0 = .ok (.aload_n 0, 1) := by decide +kernel
theorem dX3_readItem_1 : decode cX3_readItem 1 = .ok (.getfield 35, 3) := by decide +kernel
theorem dX3_readItem_4 : decode cX3_readItem 4 = .ok (.iconst 1, 1) := by decide +kernel
theorem dX3_readItem_5 : decode cX3_readItem 5 = .ok (.if_icmp .eq 5, 3) := by decide +kernel
theorem dX3_readItem_8 : decode cX3_readItem 8 = .ok (.iconst 0, 1) := by decide +kernel
theorem dX3_readItem_9 : decode cX3_readItem 9 = .ok (.ireturn, 1) := by decide +kernel
theorem dX3_readItem_10 : decode cX3_readItem 10 = .ok (.aload_n 0, 1) := by decide +kernel
theorem dX3_readItem_11 : decode cX3_readItem 11 = .ok (.getfield 38, 3) := by decide +kernel
theorem dX3_readItem_14 : decode cX3_readItem 14 = .ok (.tableswitch 44 7 9 #[26, 32, 38], 26) := by decide +kernel
theorem dX3_readItem_40 : decode cX3_readItem 40 = .ok (.aload_n 0, 1) := by decide +kernel
theorem dX3_readItem_41 : decode cX3_readItem 41 = .ok (.aload_n 1, 1) := by decide +kernel
theorem dX3_readItem_42 : decode cX3_readItem 42 = .ok (.invokevirtual 41, 3) := by decide +kernel
theorem dX3_readItem_45 : decode cX3_readItem 45 = .ok (.ireturn, 1) := by decide +kernel
theorem dX3_readItem_46 : decode cX3_readItem 46 = .ok (.aload_n 0, 1) := by decide +kernel
theorem dX3_readItem_47 : decode cX3_readItem 47 = .ok (.aload_n 1, 1) := by decide +kernel
theorem dX3_readItem_48 : decode cX3_readItem 48 = .ok (.invokevirtual 44, 3) := by decide +kernel
theorem dX3_readItem_51 : decode cX3_readItem 51 = .ok (.ireturn, 1) := by decide +kernel
theorem dX3_readItem_52 : decode cX3_readItem 52 = .ok (.aload_n 0, 1) := by decide +kernel
theorem dX3_readItem_53 : decode cX3_readItem 53 = .ok (.aload_n 1, 1) := by decide +kernel
theorem dX3_readItem_54 : decode cX3_readItem 54 = .ok (.invokevirtual 47, 3) := by decide +kernel
theorem dX3_readItem_57 : decode cX3_readItem 57 = .ok (.ireturn, 1) := by decide +kernel
theorem dX3_readItem_58 : decode cX3_readItem 58 = .ok (.aload_n 0, 1) := by decide +kernel
theorem dX3_readItem_59 : decode cX3_readItem 59 = .ok (.getfield 38, 3) := by decide +kernel
theorem dX3_readItem_62 : decode cX3_readItem 62 = .ok (.invokestatic 50, 3) := by decide +kernel
theorem dX3_readItem_65 : decode cX3_readItem 65 = .ok (.ifCond .eq 19, 3) := by decide +kernel
theorem dX3_readItem_68 : decode cX3_readItem 68 = .ok (.aload_n 0, 1) := by decide +kernel
theorem dX3_readItem_69 : decode cX3_readItem 69 = .ok (.aload_n 1, 1) := by decide +kernel
theorem dX3_readItem_70 : decode cX3_readItem 70 = .ok (.aload_n 0, 1) := by decide +kernel
theorem dX3_readItem_71 : decode cX3_readItem 71 = .ok (.getfield 38, 3) := by decide +kernel
theorem dX3_readItem_74 : decode cX3_readItem 74 = .ok (.invokevirtual 56, 3) := by decide +kernel
theorem dX3_readItem_77 : decode cX3_readItem 77 = .ok (.ifCond .eq 7, 3) := by decide +kernel
theorem dX3_readItem_80 : decode cX3_readItem 80 = .ok (.iconst 1, 1) := by decide +kernel
theorem dX3_readItem_81 : decode cX3_readItem 81 = .ok (.goto 4, 3) := by decide +kernel
theorem dX3_readItem_84 : decode cX3_readItem 84 = .ok (.iconst 0, 1) := by decide +kernel
theorem dX3_readItem_85 : decode cX3_readItem 85 = .ok (.ireturn, 1) := by decide +kernel
theorem dX3_readDoll_0 : decode cX3_readDoll 0 = .ok (.aload_n 1, 1) := by decide +kernel
theorem dX3_readDoll_1 : decode cX3_readDoll 1 = .ok (.getfield 60, 3) := by decide +kernel
theorem dX3_readDoll_4 : decode cX3_readDoll 4 = .ok (.bipush 8, 2) := by decide +kernel
theorem dX3_readDoll_6 : decode cX3_readDoll 6 = .ok (.if_icmp .lt 5, 3) := by decide +kernel
theorem dX3_readDoll_9 : decode cX3_readDoll 9 = .ok (.iconst 0, 1) := by decide +kernel
theorem dX3_readDoll_10 : decode cX3_readDoll 10 = .ok (.ireturn, 1) := by decide +kernel
theorem dX3_readDoll_11 : decode cX3_readDoll 11 = .ok (.aload_n 1, 1) := by decide +kernel
theorem dX3_readDoll_12 : decode cX3_readDoll 12 = .ok (.iload_n 2, 1) := by decide +kernel
theorem dX3_readDoll_13 : decode cX3_readDoll 13 = .ok (.invokevirtual 65, 3) := by decide +kernel
theorem dX3_readDoll_16 : decode cX3_readDoll 16 = .ok (.istore_n 3, 1) := by decide +kernel
theorem dX3_readDoll_17 : decode cX3_readDoll 17 = .ok (.aload_n 0, 1) := by decide +kernel
theorem dX3_readDoll_18 : decode cX3_readDoll 18 = .ok (.invokevirtual 25, 3) := by decide +kernel
theorem dX3_readDoll_21 : decode cX3_readDoll 21 = .ok (.aload_n 0, 1) := by decide +kernel
theorem dX3_readDoll_22 : decode cX3_readDoll 22 = .ok (.bipush 10, 2) := by decide +kernel
theorem dX3_readDoll_24 : decode cX3_readDoll 24 = .ok (.invokevirtual 69, 3) := by decide +kernel
theorem dX3_readDoll_27 : decode cX3_readDoll 27 = .ok (.ifCond .ne 5, 3) := by decide +kernel
theorem dX3_readDoll_30 : decode cX3_readDoll 30 = .ok (.iconst 1, 1) := by decide +kernel
theorem dX3_readDoll_31 : decode cX3_readDoll 31 = .ok (.ireturn, 1) := by decide +kernel
theorem dX3_readDoll_32 : decode cX3_readDoll 32 = .ok (.aload_n 0, 1) := by decide +kernel
theorem dX3_readDoll_33 : decode cX3_readDoll 33 = .ok (.invokevirtual 25, 3) := by decide +kernel
theorem dX3_readDoll_36 : decode cX3_readDoll 36 = .ok (.aload_n 0, 1) := by decide +kernel
theorem dX3_readDoll_37 : decode cX3_readDoll 37 = .ok (.iconst 1, 1) := by decide +kernel
theorem dX3_readDoll_38 : decode cX3_readDoll 38 = .ok (.bipush 9, 2) := by decide +kernel
theorem dX3_readDoll_40 : decode cX3_readDoll 40 = .ok (.invokevirtual 72, 3) := by decide +kernel
theorem dX3_readDoll_43 : decode cX3_readDoll 43 = .ok (.ifCond .ne 5, 3) := by decide +kernel
theorem dX3_readDoll_46 : decode cX3_readDoll 46 = .ok (.iconst 0, 1) := by decide +kernel
theorem dX3_readDoll_47 : decode cX3_readDoll 47 = .ok (.ireturn, 1) := by decide +kernel
theorem dX3_readDoll_48 : decode cX3_readDoll 48 = .ok (.aload_n 1, 1) := by decide +kernel
theorem dX3_readDoll_49 : decode cX3_readDoll 49 = .ok (.iload_n 3, 1) := by decide +kernel
theorem dX3_readDoll_50 : decode cX3_readDoll 50 = .ok (.aload_n 0, 1) := by decide +kernel
theorem dX3_readDoll_51 : decode cX3_readDoll 51 = .ok (.getfield 76, 3) := by decide +kernel
theorem dX3_readDoll_54 : decode cX3_readDoll 54 = .ok (.invokevirtual 79, 3) := by decide +kernel
theorem dX3_readDoll_57 : decode cX3_readDoll 57 = .ok (.aload_n 0, 1) := by decide +kernel
theorem dX3_readDoll_58 : decode cX3_readDoll 58 = .ok (.invokevirtual 25, 3) := by decide +kernel
theorem dX3_readDoll_61 : decode cX3_readDoll 61 = .ok (.iconst 1, 1) := by decide +kernel
theorem dX3_readDoll_62 : decode cX3_readDoll 62 = .ok (.ireturn, 1) := by decide +kernel
theorem dX3_readBeat_0 : decode cX3_readBeat 0 = .ok (.aload_n 1, 1) := by decide +kernel
theorem dX3_readBeat_1 : decode cX3_readBeat 1 = .ok (.getfield 83, 3) := by decide +kernel
theorem dX3_readBeat_4 : decode cX3_readBeat 4 = .ok (.bipush 12, 2) := by decide +kernel
theorem dX3_readBeat_6 : decode cX3_readBeat 6 = .ok (.if_icmp .lt 5, 3) := by decide +kernel
theorem dX3_readBeat_9 : decode cX3_readBeat 9 = .ok (.iconst 0, 1) := by decide +kernel
theorem dX3_readBeat_10 : decode cX3_readBeat 10 = .ok (.ireturn, 1) := by decide +kernel
theorem dX3_readBeat_11 : decode cX3_readBeat 11 = .ok (.aload_n 0, 1) := by decide +kernel
theorem dX3_readBeat_12 : decode cX3_readBeat 12 = .ok (.invokevirtual 25, 3) := by decide +kernel
theorem dX3_readBeat_15 : decode cX3_readBeat 15 = .ok (.aload_n 0, 1) := by decide +kernel
theorem dX3_readBeat_16 : decode cX3_readBeat 16 = .ok (.getfield 35, 3) := by decide +kernel
theorem dX3_readBeat_19 : decode cX3_readBeat 19 = .ok (.iconst 2, 1) := by decide +kernel
theorem dX3_readBeat_20 : decode cX3_readBeat 20 = .ok (.if_icmp .ne 14, 3) := by decide +kernel
theorem dX3_readBeat_23 : decode cX3_readBeat 23 = .ok (.aload_n 1, 1) := by decide +kernel
theorem dX3_readBeat_24 : decode cX3_readBeat 24 = .ok (.aload_n 0, 1) := by decide +kernel
theorem dX3_readBeat_25 : decode cX3_readBeat 25 = .ok (.getfield 76, 3) := by decide +kernel
theorem dX3_readBeat_28 : decode cX3_readBeat 28 = .ok (.invokevirtual 86, 3) := by decide +kernel
theorem dX3_readBeat_31 : decode cX3_readBeat 31 = .ok (.ifCond .ne 5, 3) := by decide +kernel
theorem dX3_readBeat_34 : decode cX3_readBeat 34 = .ok (.iconst 0, 1) := by decide +kernel
theorem dX3_readBeat_35 : decode cX3_readBeat 35 = .ok (.ireturn, 1) := by decide +kernel
theorem dX3_readBeat_36 : decode cX3_readBeat 36 = .ok (.aload_n 1, 1) := by decide +kernel
theorem dX3_readBeat_37 : decode cX3_readBeat 37 = .ok (.aload_n 0, 1) := by decide +kernel
theorem dX3_readBeat_38 : decode cX3_readBeat 38 = .ok (.getfield 76, 3) := by decide +kernel
theorem dX3_readBeat_41 : decode cX3_readBeat 41 = .ok (.iconst (-1), 1) := by decide +kernel
theorem dX3_readBeat_42 : decode cX3_readBeat 42 = .ok (.invokevirtual 89, 3) := by decide +kernel
theorem dX3_readBeat_45 : decode cX3_readBeat 45 = .ok (.istore_n 2, 1) := by decide +kernel
theorem dX3_readBeat_46 : decode cX3_readBeat 46 = .ok (.aload_n 0, 1) := by decide +kernel
theorem dX3_readBeat_47 : decode cX3_readBeat 47 = .ok (.invokevirtual 25, 3) := by decide +kernel
theorem dX3_readBeat_50 : decode cX3_readBeat 50 = .ok (.aload_n 0, 1) := by decide +kernel
theorem dX3_readBeat_51 : decode cX3_readBeat 51 = .ok (.bipush 11, 2) := by decide +kernel
theorem dX3_readBeat_53 : decode cX3_readBeat 53 = .ok (.invokevirtual 69, 3) := by decide +kernel
theorem dX3_readBeat_56 : decode cX3_readBeat 56 = .ok (.ifCond .ne 5, 3) := by decide +kernel
theorem dX3_readBeat_59 : decode cX3_readBeat 59 = .ok (.iconst 1, 1) := by decide +kernel
theorem dX3_readBeat_60 : decode cX3_readBeat 60 = .ok (.ireturn, 1) := by decide +kernel
theorem dX3_readBeat_61 : decode cX3_readBeat 61 = .ok (.aload_n 0, 1) := by decide +kernel
theorem dX3_readBeat_62 : decode cX3_readBeat 62 = .ok (.invokevirtual 25, 3) := by decide +kernel
theorem dX3_readBeat_65 : decode cX3_readBeat 65 = .ok (.aload_n 0, 1) := by decide +kernel
theorem dX3_readBeat_66 : decode cX3_readBeat 66 = .ok (.iconst 0, 1) := by decide +kernel
theorem dX3_readBeat_67 : decode cX3_readBeat 67 = .ok (.aload_n 1, 1) := by decide +kernel
theorem dX3_readBeat_68 : decode cX3_readBeat 68 = .ok (.getfield 60, 3) := by decide +kernel
theorem dX3_readBeat_71 : decode cX3_readBeat 71 = .ok (.iconst 1, 1) := by decide +kernel
theorem dX3_readBeat_72 : decode cX3_readBeat 72 = .ok (.isub, 1) := by decide +kernel
theorem dX3_readBeat_73 : decode cX3_readBeat 73 = .ok (.invokevirtual 72, 3) := by decide +kernel
theorem dX3_readBeat_76 : decode cX3_readBeat 76 = .ok (.ifCond .ne 5, 3) := by decide +kernel
theorem dX3_readBeat_79 : decode cX3_readBeat 79 = .ok (.iconst 0, 1) := by decide +kernel
theorem dX3_readBeat_80 : decode cX3_readBeat 80 = .ok (.ireturn, 1) := by decide +kernel
theorem dX3_readBeat_81 : decode cX3_readBeat 81 = .ok (.aload_n 1, 1) := by decide +kernel
theorem dX3_readBeat_82 : decode cX3_readBeat 82 = .ok (.iload_n 2, 1) := by decide +kernel
theorem dX3_readBeat_83 : decode cX3_readBeat 83 = .ok (.aload_n 0, 1) := by decide +kernel
theorem dX3_readBeat_84 : decode cX3_readBeat 84 = .ok (.getfield 76, 3) := by decide +kernel
theorem dX3_readBeat_87 : decode cX3_readBeat 87 = .ok (.invokevirtual 93, 3) := by decide +kernel
theorem dX3_readBeat_90 : decode cX3_readBeat 90 = .ok (.aload_n 0, 1) := by decide +kernel
theorem dX3_readBeat_91 : decode cX3_readBeat 91 = .ok (.invokevirtual 25, 3) := by decide +kernel
theorem dX3_readBeat_94 : decode cX3_readBeat 94 = .ok (.iconst 1, 1) := by decide +kernel
theorem dX3_readBeat_95 : decode cX3_readBeat 95 = .ok (.ireturn, 1) := by decide +kernel
theorem dX3_readLeaves_0 : decode cX3_readLeaves 0 = .ok (.aload_n 0, 1) := by decide +kernel
theorem dX3_readLeaves_1 : decode cX3_readLeaves 1 = .ok (.invokevirtual 25, 3) := by decide +kernel
theorem dX3_readLeaves_4 : decode cX3_readLeaves 4 = .ok (.aload_n 0, 1) := by decide +kernel
theorem dX3_readLeaves_5 : decode cX3_readLeaves 5 = .ok (.iconst 0, 1) := by decide +kernel
theorem dX3_readLeaves_6 : decode cX3_readLeaves 6 = .ok (.bipush 10, 2) := by decide +kernel
theorem dX3_readLeaves_8 : decode cX3_readLeaves 8 = .ok (.invokevirtual 72, 3) := by decide +kernel
theorem dX3_readLeaves_11 : decode cX3_readLeaves 11 = .ok (.ifCond .ne 5, 3) := by decide +kernel
theorem dX3_readLeaves_14 : decode cX3_readLeaves 14 = .ok (.iconst 0, 1) := by decide +kernel
theorem dX3_readLeaves_15 : decode cX3_readLeaves 15 = .ok (.ireturn, 1) := by decide +kernel
theorem dX3_readLeaves_16 : decode cX3_readLeaves 16 = .ok (.aload_n 1, 1) := by decide +kernel
theorem dX3_readLeaves_17 : decode cX3_readLeaves 17 = .ok (.aload_n 0, 1) := by decide +kernel
theorem dX3_readLeaves_18 : decode cX3_readLeaves 18 = .ok (.getfield 76, 3) := by decide +kernel
theorem dX3_readLeaves_21 : decode cX3_readLeaves 21 = .ok (.putfield 96, 3) := by decide +kernel
theorem dX3_readLeaves_24 : decode cX3_readLeaves 24 = .ok (.aload_n 0, 1) := by decide +kernel
theorem dX3_readLeaves_25 : decode cX3_readLeaves 25 = .ok (.invokevirtual 25, 3) := by decide +kernel
theorem dX3_readLeaves_28 : decode cX3_readLeaves 28 = .ok (.iconst 1, 1) := by decide +kernel
theorem dX3_readLeaves_29 : decode cX3_readLeaves 29 = .ok (.ireturn, 1) := by decide +kernel
theorem dX3_readHook_0 : decode cX3_readHook 0 = .ok (.aload_n 0, 1) := by decide +kernel
theorem dX3_readHook_1 : decode cX3_readHook 1 = .ok (.invokevirtual 25, 3) := by decide +kernel
theorem dX3_readHook_4 : decode cX3_readHook 4 = .ok (.aload_n 0, 1) := by decide +kernel
theorem dX3_readHook_5 : decode cX3_readHook 5 = .ok (.iconst 0, 1) := by decide +kernel
theorem dX3_readHook_6 : decode cX3_readHook 6 = .ok (.aload_n 1, 1) := by decide +kernel
theorem dX3_readHook_7 : decode cX3_readHook 7 = .ok (.getfield 60, 3) := by decide +kernel
theorem dX3_readHook_10 : decode cX3_readHook 10 = .ok (.iconst 1, 1) := by decide +kernel
theorem dX3_readHook_11 : decode cX3_readHook 11 = .ok (.isub, 1) := by decide +kernel
theorem dX3_readHook_12 : decode cX3_readHook 12 = .ok (.invokevirtual 72, 3) := by decide +kernel
theorem dX3_readHook_15 : decode cX3_readHook 15 = .ok (.ifCond .ne 5, 3) := by decide +kernel
theorem dX3_readHook_18 : decode cX3_readHook 18 = .ok (.iconst 0, 1) := by decide +kernel
theorem dX3_readHook_19 : decode cX3_readHook 19 = .ok (.ireturn, 1) := by decide +kernel
theorem dX3_readHook_20 : decode cX3_readHook 20 = .ok (.aload_n 0, 1) := by decide +kernel
theorem dX3_readHook_21 : decode cX3_readHook 21 = .ok (.getfield 76, 3) := by decide +kernel
theorem dX3_readHook_24 : decode cX3_readHook 24 = .ok (.istore_n 2, 1) := by decide +kernel
theorem dX3_readHook_25 : decode cX3_readHook 25 = .ok (.aload_n 0, 1) := by decide +kernel
theorem dX3_readHook_26 : decode cX3_readHook 26 = .ok (.invokevirtual 25, 3) := by decide +kernel
theorem dX3_readHook_29 : decode cX3_readHook 29 = .ok (.aload_n 0, 1) := by decide +kernel
theorem dX3_readHook_30 : decode cX3_readHook 30 = .ok (.iconst 0, 1) := by decide +kernel
theorem dX3_readHook_31 : decode cX3_readHook 31 = .ok (.aload_n 1, 1) := by decide +kernel
theorem dX3_readHook_32 : decode cX3_readHook 32 = .ok (.getfield 60, 3) := by decide +kernel
theorem dX3_readHook_35 : decode cX3_readHook 35 = .ok (.iconst 1, 1) := by decide +kernel
theorem dX3_readHook_36 : decode cX3_readHook 36 = .ok (.isub, 1) := by decide +kernel
theorem dX3_readHook_37 : decode cX3_readHook 37 = .ok (.invokevirtual 72, 3) := by decide +kernel
theorem dX3_readHook_40 : decode cX3_readHook 40 = .ok (.ifCond .ne 5, 3) := by decide +kernel
theorem dX3_readHook_43 : decode cX3_readHook 43 = .ok (.iconst 0, 1) := by decide +kernel
theorem dX3_readHook_44 : decode cX3_readHook 44 = .ok (.ireturn, 1) := by decide +kernel
theorem dX3_readHook_45 : decode cX3_readHook 45 = .ok (.aload_n 1, 1) := by decide +kernel
theorem dX3_readHook_46 : decode cX3_readHook 46 = .ok (.iload_n 2, 1) := by decide +kernel
theorem dX3_readHook_47 : decode cX3_readHook 47 = .ok (.aload_n 0, 1) := by decide +kernel
theorem dX3_readHook_48 : decode cX3_readHook 48 = .ok (.getfield 76, 3) := by decide +kernel
theorem dX3_readHook_51 : decode cX3_readHook 51 = .ok (.invokevirtual 99, 3) := by decide +kernel
theorem dX3_readHook_54 : decode cX3_readHook 54 = .ok (.aload_n 0, 1) := by decide +kernel
theorem dX3_readHook_55 : decode cX3_readHook 55 = .ok (.invokevirtual 25, 3) := by decide +kernel
theorem dX3_readHook_58 : decode cX3_readHook 58 = .ok (.iconst 1, 1) := by decide +kernel
theorem dX3_readHook_59 : decode cX3_readHook 59 = .ok (.ireturn, 1) := by decide +kernel
theorem dX3_isWord_0 : decode cX3_isWord 0 = .ok (.aload_n 0, 1) := by decide +kernel
theorem dX3_isWord_1 : decode cX3_isWord 1 = .ok (.getfield 35, 3) := by decide +kernel
theorem dX3_isWord_4 : decode cX3_isWord 4 = .ok (.iconst 1, 1) := by decide +kernel
theorem dX3_isWord_5 : decode cX3_isWord 5 = .ok (.if_icmp .ne 15, 3) := by decide +kernel
theorem dX3_isWord_8 : decode cX3_isWord 8 = .ok (.aload_n 0, 1) := by decide +kernel
theorem dX3_isWord_9 : decode cX3_isWord 9 = .ok (.getfield 38, 3) := by decide +kernel
theorem dX3_isWord_12 : decode cX3_isWord 12 = .ok (.iload_n 1, 1) := by decide +kernel
theorem dX3_isWord_13 : decode cX3_isWord 13 = .ok (.if_icmp .ne 7, 3) := by decide +kernel
theorem dX3_isWord_16 : decode cX3_isWord 16 = .ok (.iconst 1, 1) := by decide +kernel
theorem dX3_isWord_17 : decode cX3_isWord 17 = .ok (.goto 4, 3) := by decide +kernel
theorem dX3_isWord_20 : decode cX3_isWord 20 = .ok (.iconst 0, 1) := by decide +kernel
theorem dX3_isWord_21 : decode cX3_isWord 21 = .ok (.ireturn, 1) := by decide +kernel
theorem dX3_isNumber_0 : decode cX3_isNumber 0 = .ok (.aload_n 0, 1) := by decide +kernel
theorem dX3_isNumber_1 : decode cX3_isNumber 1 = .ok (.getfield 35, 3) := by decide +kernel
theorem dX3_isNumber_4 : decode cX3_isNumber 4 = .ok (.iconst 2, 1) := by decide +kernel
theorem dX3_isNumber_5 : decode cX3_isNumber 5 = .ok (.if_icmp .ne 23, 3) := by decide +kernel
theorem dX3_isNumber_8 : decode cX3_isNumber 8 = .ok (.aload_n 0, 1) := by decide +kernel
theorem dX3_isNumber_9 : decode cX3_isNumber 9 = .ok (.getfield 76, 3) := by decide +kernel
theorem dX3_isNumber_12 : decode cX3_isNumber 12 = .ok (.iload_n 1, 1) := by decide +kernel
theorem dX3_isNumber_13 : decode cX3_isNumber 13 = .ok (.if_icmp .lt 15, 3) := by decide +kernel
theorem dX3_isNumber_16 : decode cX3_isNumber 16 = .ok (.aload_n 0, 1) := by decide +kernel
theorem dX3_isNumber_17 : decode cX3_isNumber 17 = .ok (.getfield 76, 3) := by decide +kernel
theorem dX3_isNumber_20 : decode cX3_isNumber 20 = .ok (.iload_n 2, 1) := by decide +kernel
theorem dX3_isNumber_21 : decode cX3_isNumber 21 = .ok (.if_icmp .gt 7, 3) := by decide +kernel
theorem dX3_isNumber_24 : decode cX3_isNumber 24 = .ok (.iconst 1, 1) := by decide +kernel
theorem dX3_isNumber_25 : decode cX3_isNumber 25 = .ok (.goto 4, 3) := by decide +kernel
theorem dX3_isNumber_28 : decode cX3_isNumber 28 = .ok (.iconst 0, 1) := by decide +kernel
theorem dX3_isNumber_29 : decode cX3_isNumber 29 = .ok (.ireturn, 1) := by decide +kernel
theorem dX3_nextToken_0 : decode cX3_nextToken 0 = .ok (.aload_n 0, 1) := by decide +kernel
theorem dX3_nextToken_1 : decode cX3_nextToken 1 = .ok (.getfield 22, 3) := by decide +kernel
theorem dX3_nextToken_4 : decode cX3_nextToken 4 = .ok (.aload_n 0, 1) := by decide +kernel
theorem dX3_nextToken_5 : decode cX3_nextToken 5 = .ok (.getfield 15, 3) := by decide +kernel
theorem dX3_nextToken_8 : decode cX3_nextToken 8 = .ok (.if_icmp .ge 29, 3) := by decide +kernel
theorem dX3_nextToken_11 : decode cX3_nextToken 11 = .ok (.aload_n 0, 1) := by decide +kernel
theorem dX3_nextToken_12 : decode cX3_nextToken 12 = .ok (.aload_n 0, 1) := by decide +kernel
theorem dX3_nextToken_13 : decode cX3_nextToken 13 = .ok (.getfield 22, 3) := by decide +kernel
theorem dX3_nextToken_16 : decode cX3_nextToken 16 = .ok (.invokevirtual 102, 3) := by decide +kernel
theorem dX3_nextToken_19 : decode cX3_nextToken 19 = .ok (.bipush 32, 2) := by decide +kernel
theorem dX3_nextToken_21 : decode cX3_nextToken 21 = .ok (.if_icmp .ne 16, 3) := by decide +kernel
theorem dX3_nextToken_24 : decode cX3_nextToken 24 = .ok (.aload_n 0, 1) := by decide +kernel
theorem dX3_nextToken_25 : decode cX3_nextToken 25 = .ok (.dup, 1) := by decide +kernel
theorem dX3_nextToken_26 : decode cX3_nextToken 26 = .ok (.getfield 22, 3) := by decide +kernel
theorem dX3_nextToken_29 : decode cX3_nextToken 29 = .ok (.iconst 1, 1) := by decide +kernel
theorem dX3_nextToken_30 : decode cX3_nextToken 30 = .ok (.iadd, 1) := by decide +kernel
theorem dX3_nextToken_31 : decode cX3_nextToken 31 = .ok (.putfield 22, 3) := by decide +kernel
theorem dX3_nextToken_34 : decode cX3_nextToken 34 = .ok (.goto (-34), 3) := by decide +kernel
theorem dX3_nextToken_37 : decode cX3_nextToken 37 = .ok (.aload_n 0, 1) := by decide +kernel
theorem dX3_nextToken_38 : decode cX3_nextToken 38 = .ok (.aload_n 0, 1) := by decide +kernel
theorem dX3_nextToken_39 : decode cX3_nextToken 39 = .ok (.getfield 22, 3) := by decide +kernel
theorem dX3_nextToken_42 : decode cX3_nextToken 42 = .ok (.putfield 32, 3) := by decide +kernel
theorem dX3_nextToken_45 : decode cX3_nextToken 45 = .ok (.aload_n 0, 1) := by decide +kernel
theorem dX3_nextToken_46 : decode cX3_nextToken 46 = .ok (.getfield 32, 3) := by decide +kernel
theorem dX3_nextToken_49 : decode cX3_nextToken 49 = .ok (.aload_n 0, 1) := by decide +kernel
theorem dX3_nextToken_50 : decode cX3_nextToken 50 = .ok (.getfield 15, 3) := by decide +kernel
theorem dX3_nextToken_53 : decode cX3_nextToken 53 = .ok (.if_icmp .lt 11, 3) := by decide +kernel
theorem dX3_nextToken_56 : decode cX3_nextToken 56 = .ok (.aload_n 0, 1) := by decide +kernel
theorem dX3_nextToken_57 : decode cX3_nextToken 57 = .ok (.iconst 0, 1) := by decide +kernel
theorem dX3_nextToken_58 : decode cX3_nextToken 58 = .ok (.putfield 35, 3) := by decide +kernel
theorem dX3_nextToken_61 : decode cX3_nextToken 61 = .ok (.goto 77, 3) := by decide +kernel
theorem dX3_nextToken_64 : decode cX3_nextToken 64 = .ok (.aload_n 0, 1) := by decide +kernel
theorem dX3_nextToken_65 : decode cX3_nextToken 65 = .ok (.aload_n 0, 1) := by decide +kernel
theorem dX3_nextToken_66 : decode cX3_nextToken 66 = .ok (.getfield 32, 3) := by decide +kernel
theorem dX3_nextToken_69 : decode cX3_nextToken 69 = .ok (.invokevirtual 102, 3) := by decide +kernel
theorem dX3_nextToken_72 : decode cX3_nextToken 72 = .ok (.invokestatic 105, 3) := by decide +kernel
theorem dX3_nextToken_75 : decode cX3_nextToken 75 = .ok (.ifCond .eq 10, 3) := by decide +kernel
theorem dX3_nextToken_78 : decode cX3_nextToken 78 = .ok (.aload_n 0, 1) := by decide +kernel
theorem dX3_nextToken_79 : decode cX3_nextToken 79 = .ok (.invokevirtual 108, 3) := by decide +kernel
theorem dX3_nextToken_82 : decode cX3_nextToken 82 = .ok (.goto 56, 3) := by decide +kernel
theorem dX3_nextToken_85 : decode cX3_nextToken 85 = .ok (.aload_n 0, 1) := by decide +kernel
theorem dX3_nextToken_86 : decode cX3_nextToken 86 = .ok (.aload_n 0, 1) := by decide +kernel
theorem dX3_nextToken_87 : decode cX3_nextToken 87 = .ok (.getfield 32, 3) := by decide +kernel
theorem dX3_nextToken_90 : decode cX3_nextToken 90 = .ok (.invokevirtual 102, 3) := by decide +kernel
theorem dX3_nextToken_93 : decode cX3_nextToken 93 = .ok (.invokestatic 111, 3) := by decide +kernel
theorem dX3_nextToken_96 : decode cX3_nextToken 96 = .ok (.ifCond .eq 10, 3) := by decide +kernel
theorem dX3_nextToken_99 : decode cX3_nextToken 99 = .ok (.aload_n 0, 1) := by decide +kernel
theorem dX3_nextToken_100 : decode cX3_nextToken 100 = .ok (.invokevirtual 114, 3) := by decide +kernel
theorem dX3_nextToken_103 : decode cX3_nextToken 103 = .ok (.goto 35, 3) := by decide +kernel
theorem dX3_nextToken_106 : decode cX3_nextToken 106 = .ok (.aload_n 0, 1) := by decide +kernel
theorem dX3_nextToken_107 : decode cX3_nextToken 107 = .ok (.aload_n 0, 1) := by decide +kernel
theorem dX3_nextToken_108 : decode cX3_nextToken 108 = .ok (.aload_n 0, 1) := by decide +kernel
theorem dX3_nextToken_109 : decode cX3_nextToken 109 = .ok (.getfield 32, 3) := by decide +kernel
theorem dX3_nextToken_112 : decode cX3_nextToken 112 = .ok (.invokevirtual 102, 3) := by decide +kernel
theorem dX3_nextToken_115 : decode cX3_nextToken 115 = .ok (.bipush 59, 2) := by decide +kernel
theorem dX3_nextToken_117 : decode cX3_nextToken 117 = .ok (.if_icmp .ne 7, 3) := by decide +kernel
theorem dX3_nextToken_120 : decode cX3_nextToken 120 = .ok (.iconst 3, 1) := by decide +kernel
theorem dX3_nextToken_121 : decode cX3_nextToken 121 = .ok (.goto 4, 3) := by decide +kernel
theorem dX3_nextToken_124 : decode cX3_nextToken 124 = .ok (.iconst 4, 1) := by decide +kernel
theorem dX3_nextToken_125 : decode cX3_nextToken 125 = .ok (.putfield 35, 3) := by decide +kernel
theorem dX3_nextToken_128 : decode cX3_nextToken 128 = .ok (.aload_n 0, 1) := by decide +kernel
theorem dX3_nextToken_129 : decode cX3_nextToken 129 = .ok (.dup, 1) := by decide +kernel
theorem dX3_nextToken_130 : decode cX3_nextToken 130 = .ok (.getfield 22, 3) := by decide +kernel
theorem dX3_nextToken_133 : decode cX3_nextToken 133 = .ok (.iconst 1, 1) := by decide +kernel
theorem dX3_nextToken_134 : decode cX3_nextToken 134 = .ok (.iadd, 1) := by decide +kernel
theorem dX3_nextToken_135 : decode cX3_nextToken 135 = .ok (.putfield 22, 3) := by decide +kernel
theorem dX3_nextToken_138 : decode cX3_nextToken 138 = .ok (.return_, 1) := by decide +kernel
theorem dX3_nextWord_0 : decode cX3_nextWord 0 = .ok (.aload_n 0, 1) := by decide +kernel
theorem dX3_nextWord_1 : decode cX3_nextWord 1 = .ok (.getfield 22, 3) := by decide +kernel
theorem dX3_nextWord_4 : decode cX3_nextWord 4 = .ok (.aload_n 0, 1) := by decide +kernel
theorem dX3_nextWord_5 : decode cX3_nextWord 5 = .ok (.getfield 15, 3) := by decide +kernel
theorem dX3_nextWord_8 : decode cX3_nextWord 8 = .ok (.if_icmp .ge 30, 3) := by decide +kernel
theorem dX3_nextWord_11 : decode cX3_nextWord 11 = .ok (.aload_n 0, 1) := by decide +kernel
theorem dX3_nextWord_12 : decode cX3_nextWord 12 = .ok (.aload_n 0, 1) := by decide +kernel
theorem dX3_nextWord_13 : decode cX3_nextWord 13 = .ok (.getfield 22, 3) := by decide +kernel
theorem dX3_nextWord_16 : decode cX3_nextWord 16 = .ok (.invokevirtual 102, 3) := by decide +kernel
theorem dX3_nextWord_19 : decode cX3_nextWord 19 = .ok (.invokestatic 105, 3) := by decide +kernel
theorem dX3_nextWord_22 : decode cX3_nextWord 22 = .ok (.ifCond .eq 16, 3) := by decide +kernel
theorem dX3_nextWord_25 : decode cX3_nextWord 25 = .ok (.aload_n 0, 1) := by decide +kernel
theorem dX3_nextWord_26 : decode cX3_nextWord 26 = .ok (.dup, 1) := by decide +kernel
theorem dX3_nextWord_27 : decode cX3_nextWord 27 = .ok (.getfield 22, 3) := by decide +kernel
theorem dX3_nextWord_30 : decode cX3_nextWord 30 = .ok (.iconst 1, 1) := by decide +kernel
theorem dX3_nextWord_31 : decode cX3_nextWord 31 = .ok (.iadd, 1) := by decide +kernel
theorem dX3_nextWord_32 : decode cX3_nextWord 32 = .ok (.putfield 22, 3) := by decide +kernel
theorem dX3_nextWord_35 : decode cX3_nextWord 35 = .ok (.goto (-35), 3) := by decide +kernel
theorem dX3_nextWord_38 : decode cX3_nextWord 38 = .ok (.aload_n 0, 1) := by decide +kernel
theorem dX3_nextWord_39 : decode cX3_nextWord 39 = .ok (.iconst 1, 1) := by decide +kernel
theorem dX3_nextWord_40 : decode cX3_nextWord 40 = .ok (.putfield 35, 3) := by decide +kernel
theorem dX3_nextWord_43 : decode cX3_nextWord 43 = .ok (.aload_n 0, 1) := by decide +kernel
theorem dX3_nextWord_44 : decode cX3_nextWord 44 = .ok (.iconst (-1), 1) := by decide +kernel
theorem dX3_nextWord_45 : decode cX3_nextWord 45 = .ok (.putfield 38, 3) := by decide +kernel
theorem dX3_nextWord_48 : decode cX3_nextWord 48 = .ok (.iconst 0, 1) := by decide +kernel
theorem dX3_nextWord_49 : decode cX3_nextWord 49 = .ok (.istore_n 1, 1) := by decide +kernel
theorem dX3_nextWord_50 : decode cX3_nextWord 50 = .ok (.iload_n 1, 1) := by decide +kernel
theorem dX3_nextWord_51 : decode cX3_nextWord 51 = .ok (.bipush 12, 2) := by decide +kernel
theorem dX3_nextWord_53 : decode cX3_nextWord 53 = .ok (.if_icmp .ge 25, 3) := by decide +kernel
theorem dX3_nextWord_56 : decode cX3_nextWord 56 = .ok (.aload_n 0, 1) := by decide +kernel
theorem dX3_nextWord_57 : decode cX3_nextWord 57 = .ok (.iload_n 1, 1) := by decide +kernel
theorem dX3_nextWord_58 : decode cX3_nextWord 58 = .ok (.invokestatic 117, 3) := by decide +kernel
theorem dX3_nextWord_61 : decode cX3_nextWord 61 = .ok (.invokevirtual 121, 3) := by decide +kernel
theorem dX3_nextWord_64 : decode cX3_nextWord 64 = .ok (.ifCond .eq 8, 3) := by decide +kernel
theorem dX3_nextWord_67 : decode cX3_nextWord 67 = .ok (.aload_n 0, 1) := by decide +kernel
theorem dX3_nextWord_68 : decode cX3_nextWord 68 = .ok (.iload_n 1, 1) := by decide +kernel
theorem dX3_nextWord_69 : decode cX3_nextWord 69 = .ok (.putfield 38, 3) := by decide +kernel
theorem dX3_nextWord_72 : decode cX3_nextWord 72 = .ok (.iinc 1 1, 3) := by decide +kernel
theorem dX3_nextWord_75 : decode cX3_nextWord 75 = .ok (.goto (-25), 3) := by decide +kernel
theorem dX3_nextWord_78 : decode cX3_nextWord 78 = .ok (.return_, 1) := by decide +kernel
theorem dX3_nextNumber_0 : decode cX3_nextNumber 0 = .ok (.aload_n 0, 1) := by decide +kernel
theorem dX3_nextNumber_1 : decode cX3_nextNumber 1 = .ok (.iconst 2, 1) := by decide +kernel
theorem dX3_nextNumber_2 : decode cX3_nextNumber 2 = .ok (.putfield 35, 3) := by decide +kernel
theorem dX3_nextNumber_5 : decode cX3_nextNumber 5 = .ok (.aload_n 0, 1) := by decide +kernel
theorem dX3_nextNumber_6 : decode cX3_nextNumber 6 = .ok (.iconst 0, 1) := by decide +kernel
theorem dX3_nextNumber_7 : decode cX3_nextNumber 7 = .ok (.putfield 76, 3) := by decide +kernel
theorem dX3_nextNumber_10 : decode cX3_nextNumber 10 = .ok (.aload_n 0, 1) := by decide +kernel
theorem dX3_nextNumber_11 : decode cX3_nextNumber 11 = .ok (.getfield 22, 3) := by decide +kernel
theorem dX3_nextNumber_14 : decode cX3_nextNumber 14 = .ok (.aload_n 0, 1) := by decide +kernel
theorem dX3_nextNumber_15 : decode cX3_nextNumber 15 = .ok (.getfield 15, 3) := by decide +kernel
theorem dX3_nextNumber_18 : decode cX3_nextNumber 18 = .ok (.if_icmp .ge 59, 3) := by decide +kernel
theorem dX3_nextNumber_21 : decode cX3_nextNumber 21 = .ok (.aload_n 0, 1) := by decide +kernel
theorem dX3_nextNumber_22 : decode cX3_nextNumber 22 = .ok (.aload_n 0, 1) := by decide +kernel
theorem dX3_nextNumber_23 : decode cX3_nextNumber 23 = .ok (.getfield 22, 3) := by decide +kernel
theorem dX3_nextNumber_26 : decode cX3_nextNumber 26 = .ok (.invokevirtual 102, 3) := by decide +kernel
theorem dX3_nextNumber_29 : decode cX3_nextNumber 29 = .ok (.invokestatic 111, 3) := by decide +kernel
theorem dX3_nextNumber_32 : decode cX3_nextNumber 32 = .ok (.ifCond .eq 45, 3) := by decide +kernel
theorem dX3_nextNumber_35 : decode cX3_nextNumber 35 = .ok (.aload_n 0, 1) := by decide +kernel
theorem dX3_nextNumber_36 : decode cX3_nextNumber 36 = .ok (.bipush 10, 2) := by decide +kernel
theorem dX3_nextNumber_38 : decode cX3_nextNumber 38 = .ok (.aload_n 0, 1) := by decide +kernel
theorem dX3_nextNumber_39 : decode cX3_nextNumber 39 = .ok (.getfield 76, 3) := by decide +kernel
theorem dX3_nextNumber_42 : decode cX3_nextNumber 42 = .ok (.imul, 1) := by decide +kernel
theorem dX3_nextNumber_43 : decode cX3_nextNumber 43 = .ok (.aload_n 0, 1) := by decide +kernel
theorem dX3_nextNumber_44 : decode cX3_nextNumber 44 = .ok (.aload_n 0, 1) := by decide +kernel
theorem dX3_nextNumber_45 : decode cX3_nextNumber 45 = .ok (.getfield 22, 3) := by decide +kernel
theorem dX3_nextNumber_48 : decode cX3_nextNumber 48 = .ok (.invokevirtual 102, 3) := by decide +kernel
theorem dX3_nextNumber_51 : decode cX3_nextNumber 51 = .ok (.iadd, 1) := by decide +kernel
theorem dX3_nextNumber_52 : decode cX3_nextNumber 52 = .ok (.bipush 48, 2) := by decide +kernel
theorem dX3_nextNumber_54 : decode cX3_nextNumber 54 = .ok (.isub, 1) := by decide +kernel
theorem dX3_nextNumber_55 : decode cX3_nextNumber 55 = .ok (.sipush 1000, 3) := by decide +kernel
theorem dX3_nextNumber_58 : decode cX3_nextNumber 58 = .ok (.invokestatic 125, 3) := by decide +kernel
theorem dX3_nextNumber_61 : decode cX3_nextNumber 61 = .ok (.putfield 76, 3) := by decide +kernel
theorem dX3_nextNumber_64 : decode cX3_nextNumber 64 = .ok (.aload_n 0, 1) := by decide +kernel
theorem dX3_nextNumber_65 : decode cX3_nextNumber 65 = .ok (.dup, 1) := by decide +kernel
theorem dX3_nextNumber_66 : decode cX3_nextNumber 66 = .ok (.getfield 22, 3) := by decide +kernel
theorem dX3_nextNumber_69 : decode cX3_nextNumber 69 = .ok (.iconst 1, 1) := by decide +kernel
theorem dX3_nextNumber_70 : decode cX3_nextNumber 70 = .ok (.iadd, 1) := by decide +kernel
theorem dX3_nextNumber_71 : decode cX3_nextNumber 71 = .ok (.putfield 22, 3) := by decide +kernel
theorem dX3_nextNumber_74 : decode cX3_nextNumber 74 = .ok (.goto (-64), 3) := by decide +kernel
theorem dX3_nextNumber_77 : decode cX3_nextNumber 77 = .ok (.return_, 1) := by decide +kernel
theorem dX3_isSpelt_0 : decode cX3_isSpelt 0 = .ok (.aload_n 1, 1) := by decide +kernel
theorem dX3_isSpelt_1 : decode cX3_isSpelt 1 = .ok (.invokevirtual 130, 3) := by decide +kernel
theorem dX3_isSpelt_4 : decode cX3_isSpelt 4 = .ok (.aload_n 0, 1) := by decide +kernel
theorem dX3_isSpelt_5 : decode cX3_isSpelt 5 = .ok (.getfield 22, 3) := by decide +kernel
theorem dX3_isSpelt_8 : decode cX3_isSpelt 8 = .ok (.aload_n 0, 1) := by decide +kernel
theorem dX3_isSpelt_9 : decode cX3_isSpelt 9 = .ok (.getfield 32, 3) := by decide +kernel
theorem dX3_isSpelt_12 : decode cX3_isSpelt 12 = .ok (.isub, 1) := by decide +kernel
theorem dX3_isSpelt_13 : decode cX3_isSpelt 13 = .ok (.if_icmp .eq 5, 3) := by decide +kernel
theorem dX3_isSpelt_16 : decode cX3_isSpelt 16 = .ok (.iconst 0, 1) := by decide +kernel
theorem dX3_isSpelt_17 : decode cX3_isSpelt 17 = .ok (.ireturn, 1) := by decide +kernel
theorem dX3_isSpelt_18 : decode cX3_isSpelt 18 = .ok (.iconst 0, 1) := by decide +kernel
theorem dX3_isSpelt_19 : decode cX3_isSpelt 19 = .ok (.istore_n 2, 1) := by decide +kernel
theorem dX3_isSpelt_20 : decode cX3_isSpelt 20 = .ok (.iload_n 2, 1) := by decide +kernel
theorem dX3_isSpelt_21 : decode cX3_isSpelt 21 = .ok (.aload_n 1, 1) := by decide +kernel
theorem dX3_isSpelt_22 : decode cX3_isSpelt 22 = .ok (.invokevirtual 130, 3) := by decide +kernel
theorem dX3_isSpelt_25 : decode cX3_isSpelt 25 = .ok (.if_icmp .ge 29, 3) := by decide +kernel
theorem dX3_isSpelt_28 : decode cX3_isSpelt 28 = .ok (.aload_n 1, 1) := by decide +kernel
theorem dX3_isSpelt_29 : decode cX3_isSpelt 29 = .ok (.iload_n 2, 1) := by decide +kernel
theorem dX3_isSpelt_30 : decode cX3_isSpelt 30 = .ok (.invokevirtual 135, 3) := by decide +kernel
theorem dX3_isSpelt_33 : decode cX3_isSpelt 33 = .ok (.aload_n 0, 1) := by decide +kernel
theorem dX3_isSpelt_34 : decode cX3_isSpelt 34 = .ok (.aload_n 0, 1) := by decide +kernel
theorem dX3_isSpelt_35 : decode cX3_isSpelt 35 = .ok (.getfield 32, 3) := by decide +kernel
theorem dX3_isSpelt_38 : decode cX3_isSpelt 38 = .ok (.iload_n 2, 1) := by decide +kernel
theorem dX3_isSpelt_39 : decode cX3_isSpelt 39 = .ok (.iadd, 1) := by decide +kernel
theorem dX3_isSpelt_40 : decode cX3_isSpelt 40 = .ok (.invokevirtual 102, 3) := by decide +kernel
theorem dX3_isSpelt_43 : decode cX3_isSpelt 43 = .ok (.if_icmp .eq 5, 3) := by decide +kernel
theorem dX3_isSpelt_46 : decode cX3_isSpelt 46 = .ok (.iconst 0, 1) := by decide +kernel
theorem dX3_isSpelt_47 : decode cX3_isSpelt 47 = .ok (.ireturn, 1) := by decide +kernel
theorem dX3_isSpelt_48 : decode cX3_isSpelt 48 = .ok (.iinc 2 1, 3) := by decide +kernel
theorem dX3_isSpelt_51 : decode cX3_isSpelt 51 = .ok (.goto (-31), 3) := by decide +kernel
theorem dX3_isSpelt_54 : decode cX3_isSpelt 54 = .ok (.iconst 1, 1) := by decide +kernel
theorem dX3_isSpelt_55 : decode cX3_isSpelt 55 = .ok (.ireturn, 1) := by decide +kernel
theorem dX3_spelling_0 : decode cX3_spelling 0 = .ok (.iload_n 0, 1) := by decide +kernel
theorem dX3_spelling_1 : decode cX3_spelling 1 = .ok (.tableswitch 99 0 11 #[63, 66, 69, 72, 75, 78, 81, 84, 87, 90, 93, 96], 63) := by decide +kernel
theorem dX3_spelling_64 : decode cX3_spelling 64 = .ok (.ldc 139, 2) := by decide +kernel
theorem dX3_spelling_66 : decode cX3_spelling 66 = .ok (.areturn, 1) := by decide +kernel
theorem dX3_spelling_67 : decode cX3_spelling 67 = .ok (.ldc 141, 2) := by decide +kernel
theorem dX3_spelling_69 : decode cX3_spelling 69 = .ok (.areturn, 1) := by decide +kernel
theorem dX3_spelling_70 : decode cX3_spelling 70 = .ok (.ldc 143, 2) := by decide +kernel
theorem dX3_spelling_72 : decode cX3_spelling 72 = .ok (.areturn, 1) := by decide +kernel
theorem dX3_spelling_73 : decode cX3_spelling 73 = .ok (.ldc 145, 2) := by decide +kernel
theorem dX3_spelling_75 : decode cX3_spelling 75 = .ok (.areturn, 1) := by decide +kernel
theorem dX3_spelling_76 : decode cX3_spelling 76 = .ok (.ldc 147, 2) := by decide +kernel
theorem dX3_spelling_78 : decode cX3_spelling 78 = .ok (.areturn, 1) := by decide +kernel
theorem dX3_spelling_79 : decode cX3_spelling 79 = .ok (.ldc 149, 2) := by decide +kernel
theorem dX3_spelling_81 : decode cX3_spelling 81 = .ok (.areturn, 1) := by decide +kernel
theorem dX3_spelling_82 : decode cX3_spelling 82 = .ok (.ldc 151, 2) := by decide +kernel
theorem dX3_spelling_84 : decode cX3_spelling 84 = .ok (.areturn, 1) := by decide +kernel
theorem dX3_spelling_85 : decode cX3_spelling 85 = .ok (.ldc 153, 2) := by decide +kernel
theorem dX3_spelling_87 : decode cX3_spelling 87 = .ok (.areturn, 1) := by decide +kernel
theorem dX3_spelling_88 : decode cX3_spelling 88 = .ok (.ldc 155, 2) := by decide +kernel
theorem dX3_spelling_90 : decode cX3_spelling 90 = .ok (.areturn, 1) := by decide +kernel
theorem dX3_spelling_91 : decode cX3_spelling 91 = .ok (.ldc 157, 2) := by decide +kernel
theorem dX3_spelling_93 : decode cX3_spelling 93 = .ok (.areturn, 1) := by decide +kernel
theorem dX3_spelling_94 : decode cX3_spelling 94 = .ok (.ldc 159, 2) := by decide +kernel
theorem dX3_spelling_96 : decode cX3_spelling 96 = .ok (.areturn, 1) := by decide +kernel
theorem dX3_spelling_97 : decode cX3_spelling 97 = .ok (.ldc 161, 2) := by decide +kernel
theorem dX3_spelling_99 : decode cX3_spelling 99 = .ok (.areturn, 1) := by decide +kernel
theorem dX3_spelling_100 : decode cX3_spelling 100 = .ok (.ldc 163, 2) := by decide +kernel
theorem dX3_spelling_102 : decode cX3_spelling 102 = .ok (.areturn, 1) := by decide +kernel
theorem dX3_byteAt_0 : decode cX3_byteAt 0 = .ok (.iload_n 1, 1) := by decide +kernel
theorem dX3_byteAt_1 : decode cX3_byteAt 1 = .ok (.ifCond .lt 21, 3) := by decide +kernel
theorem dX3_byteAt_4 : decode cX3_byteAt 4 = .ok (.iload_n 1, 1) := by decide +kernel
theorem dX3_byteAt_5 : decode cX3_byteAt 5 = .ok (.aload_n 0, 1) := by decide +kernel
theorem dX3_byteAt_6 : decode cX3_byteAt 6 = .ok (.getfield 9, 3) := by decide +kernel
theorem dX3_byteAt_9 : decode cX3_byteAt 9 = .ok (.arraylength, 1) := by decide +kernel
theorem dX3_byteAt_10 : decode cX3_byteAt 10 = .ok (.if_icmp .ge 12, 3) := by decide +kernel
theorem dX3_byteAt_13 : decode cX3_byteAt 13 = .ok (.aload_n 0, 1) := by decide +kernel
theorem dX3_byteAt_14 : decode cX3_byteAt 14 = .ok (.getfield 9, 3) := by decide +kernel
theorem dX3_byteAt_17 : decode cX3_byteAt 17 = .ok (.iload_n 1, 1) := by decide +kernel
theorem dX3_byteAt_18 : decode cX3_byteAt 18 = .ok (.iaload, 1) := by decide +kernel
theorem dX3_byteAt_19 : decode cX3_byteAt 19 = .ok (.goto 4, 3) := by decide +kernel
theorem dX3_byteAt_22 : decode cX3_byteAt 22 = .ok (.iconst 0, 1) := by decide +kernel
theorem dX3_byteAt_23 : decode cX3_byteAt 23 = .ok (.ireturn, 1) := by decide +kernel
theorem dX3_isLetter_0 : decode cX3_isLetter 0 = .ok (.iload_n 0, 1) := by decide +kernel
theorem dX3_isLetter_1 : decode cX3_isLetter 1 = .ok (.bipush 97, 2) := by decide +kernel
theorem dX3_isLetter_3 : decode cX3_isLetter 3 = .ok (.if_icmp .lt 13, 3) := by decide +kernel
theorem dX3_isLetter_6 : decode cX3_isLetter 6 = .ok (.iload_n 0, 1) := by decide +kernel
theorem dX3_isLetter_7 : decode cX3_isLetter 7 = .ok (.bipush 122, 2) := by decide +kernel
theorem dX3_isLetter_9 : decode cX3_isLetter 9 = .ok (.if_icmp .gt 7, 3) := by decide +kernel
theorem dX3_isLetter_12 : decode cX3_isLetter 12 = .ok (.iconst 1, 1) := by decide +kernel
theorem dX3_isLetter_13 : decode cX3_isLetter 13 = .ok (.goto 4, 3) := by decide +kernel
theorem dX3_isLetter_16 : decode cX3_isLetter 16 = .ok (.iconst 0, 1) := by decide +kernel
theorem dX3_isLetter_17 : decode cX3_isLetter 17 = .ok (.ireturn, 1) := by decide +kernel
theorem dX3_isDigit_0 : decode cX3_isDigit 0 = .ok (.iload_n 0, 1) := by decide +kernel
theorem dX3_isDigit_1 : decode cX3_isDigit 1 = .ok (.bipush 48, 2) := by decide +kernel
theorem dX3_isDigit_3 : decode cX3_isDigit 3 = .ok (.if_icmp .lt 13, 3) := by decide +kernel
theorem dX3_isDigit_6 : decode cX3_isDigit 6 = .ok (.iload_n 0, 1) := by decide +kernel
theorem dX3_isDigit_7 : decode cX3_isDigit 7 = .ok (.bipush 57, 2) := by decide +kernel
theorem dX3_isDigit_9 : decode cX3_isDigit 9 = .ok (.if_icmp .gt 7, 3) := by decide +kernel
theorem dX3_isDigit_12 : decode cX3_isDigit 12 = .ok (.iconst 1, 1) := by decide +kernel
theorem dX3_isDigit_13 : decode cX3_isDigit 13 = .ok (.goto 4, 3) := by decide +kernel
theorem dX3_isDigit_16 : decode cX3_isDigit 16 = .ok (.iconst 0, 1) := by decide +kernel
theorem dX3_isDigit_17 : decode cX3_isDigit 17 = .ok (.ireturn, 1) := by decide +kernel
theorem dX4_init_0 : decode cX4_init 0 = .ok (.aload_n 0, 1) := by decide +kernel
theorem dX4_init_1 : decode cX4_init 1 = .ok (.invokespecial 5, 3) := by decide +kernel
theorem dX4_init_4 : decode cX4_init 4 = .ok (.aload_n 0, 1) := by decide +kernel
theorem dX4_init_5 : decode cX4_init 5 = .ok (.sipush 1053, 3) := by decide +kernel
theorem dX4_init_8 : decode cX4_init 8 = .ok (.newarray .int, 2) := by decide +kernel
theorem dX4_init_10 : decode cX4_init 10 = .ok (.putfield 11, 3) := by decide +kernel
theorem dX4_init_13 : decode cX4_init 13 = .ok (.aload_n 0, 1) := by decide +kernel
theorem dX4_init_14 : decode cX4_init 14 = .ok (.sipush 1053, 3) := by decide +kernel
theorem dX4_init_17 : decode cX4_init 17 = .ok (.newarray .int, 2) := by decide +kernel
theorem dX4_init_19 : decode cX4_init 19 = .ok (.putfield 15, 3) := by decide +kernel
theorem dX4_init_22 : decode cX4_init 22 = .ok (.aload_n 0, 1) := by decide +kernel
theorem dX4_init_23 : decode cX4_init 23 = .ok (.bipush 81, 2) := by decide +kernel
theorem dX4_init_25 : decode cX4_init 25 = .ok (.newarray .int, 2) := by decide +kernel
theorem dX4_init_27 : decode cX4_init 27 = .ok (.putfield 18, 3) := by decide +kernel
theorem dX4_init_30 : decode cX4_init 30 = .ok (.aload_n 0, 1) := by decide +kernel
theorem dX4_init_31 : decode cX4_init 31 = .ok (.bipush 9, 2) := by decide +kernel
theorem dX4_init_33 : decode cX4_init 33 = .ok (.newarray .int, 2) := by decide +kernel
theorem dX4_init_35 : decode cX4_init 35 = .ok (.putfield 21, 3) := by decide +kernel
theorem dX4_init_38 : decode cX4_init 38 = .ok (.aload_n 0, 1) := by decide +kernel
theorem dX4_init_39 : decode cX4_init 39 = .ok (.bipush 12, 2) := by decide +kernel
theorem dX4_init_41 : decode cX4_init 41 = .ok (.newarray .int, 2) := by decide +kernel
theorem dX4_init_43 : decode cX4_init 43 = .ok (.putfield 24, 3) := by decide +kernel
theorem dX4_init_46 : decode cX4_init 46 = .ok (.aload_n 0, 1) := by decide +kernel
theorem dX4_init_47 : decode cX4_init 47 = .ok (.bipush 12, 2) := by decide +kernel
theorem dX4_init_49 : decode cX4_init 49 = .ok (.newarray .int, 2) := by decide +kernel
theorem dX4_init_51 : decode cX4_init 51 = .ok (.putfield 27, 3) := by decide +kernel
theorem dX4_init_54 : decode cX4_init 54 = .ok (.return_, 1) := by decide +kernel
theorem dX4_worth_0 : decode cX4_worth 0 = .ok (.aload_n 0, 1) := by decide +kernel
theorem dX4_worth_1 : decode cX4_worth 1 = .ok (.aload_n 1, 1) := by decide +kernel
theorem dX4_worth_2 : decode cX4_worth 2 = .ok (.iload_n 2, 1) := by decide +kernel
theorem dX4_worth_3 : decode cX4_worth 3 = .ok (.invokevirtual 30, 3) := by decide +kernel
theorem dX4_worth_6 : decode cX4_worth 6 = .ok (.aload_n 1, 1) := by decide +kernel
theorem dX4_worth_7 : decode cX4_worth 7 = .ok (.getfield 34, 3) := by decide +kernel
theorem dX4_worth_10 : decode cX4_worth 10 = .ok (.iconst 1, 1) := by decide +kernel
theorem dX4_worth_11 : decode cX4_worth 11 = .ok (.isub, 1) := by decide +kernel
theorem dX4_worth_12 : decode cX4_worth 12 = .ok (.istore_n 3, 1) := by decide +kernel
theorem dX4_worth_13 : decode cX4_worth 13 = .ok (.iload_n 3, 1) := by decide +kernel
theorem dX4_worth_14 : decode cX4_worth 14 = .ok (.ifCond .lt 15, 3) := by decide +kernel
theorem dX4_worth_17 : decode cX4_worth 17 = .ok (.aload_n 0, 1) := by decide +kernel
theorem dX4_worth_18 : decode cX4_worth 18 = .ok (.aload_n 1, 1) := by decide +kernel
theorem dX4_worth_19 : decode cX4_worth 19 = .ok (.iload_n 3, 1) := by decide +kernel
theorem dX4_worth_20 : decode cX4_worth 20 = .ok (.invokevirtual 40, 3) := by decide +kernel
theorem dX4_worth_23 : decode cX4_worth 23 = .ok (.iinc 3 (-1), 3) := by decide +kernel
theorem dX4_worth_26 : decode cX4_worth 26 = .ok (.goto (-13), 3) := by decide +kernel
theorem dX4_worth_29 : decode cX4_worth 29 = .ok (.aload_n 0, 1) := by decide +kernel
theorem dX4_worth_30 : decode cX4_worth 30 = .ok (.iconst 0, 1) := by decide +kernel
theorem dX4_worth_31 : decode cX4_worth 31 = .ok (.aload_n 1, 1) := by decide +kernel
theorem dX4_worth_32 : decode cX4_worth 32 = .ok (.getfield 43, 3) := by decide +kernel
theorem dX4_worth_35 : decode cX4_worth 35 = .ok (.aload_n 1, 1) := by decide +kernel
theorem dX4_worth_36 : decode cX4_worth 36 = .ok (.getfield 46, 3) := by decide +kernel
theorem dX4_worth_39 : decode cX4_worth 39 = .ok (.invokevirtual 49, 3) := by decide +kernel
theorem dX4_worth_42 : decode cX4_worth 42 = .ok (.ireturn, 1) := by decide +kernel
theorem dX4_follow_0 : decode cX4_follow 0 = .ok (.aload_n 0, 1) := by decide +kernel
theorem dX4_follow_1 : decode cX4_follow 1 = .ok (.aload_n 1, 1) := by decide +kernel
theorem dX4_follow_2 : decode cX4_follow 2 = .ok (.iload_n 2, 1) := by decide +kernel
theorem dX4_follow_3 : decode cX4_follow 3 = .ok (.invokevirtual 53, 3) := by decide +kernel
theorem dX4_follow_6 : decode cX4_follow 6 = .ok (.pop, 1) := by decide +kernel
theorem dX4_follow_7 : decode cX4_follow 7 = .ok (.aload_n 1, 1) := by decide +kernel
theorem dX4_follow_8 : decode cX4_follow 8 = .ok (.getfield 43, 3) := by decide +kernel
theorem dX4_follow_11 : decode cX4_follow 11 = .ok (.istore_n 3, 1) := by decide +kernel
theorem dX4_follow_12 : decode cX4_follow 12 = .ok (.aload_n 1, 1) := by decide +kernel
theorem dX4_follow_13 : decode cX4_follow 13 = .ok (.getfield 46, 3) := by decide +kernel
theorem dX4_follow_16 : decode cX4_follow 16 = .ok (.istore 4, 2) := by decide +kernel
theorem dX4_follow_18 : decode cX4_follow 18 = .ok (.iconst 0, 1) := by decide +kernel
theorem dX4_follow_19 : decode cX4_follow 19 = .ok (.istore 5, 2) := by decide +kernel
theorem dX4_follow_21 : decode cX4_follow 21 = .ok (.iload 5, 2) := by decide +kernel
theorem dX4_follow_23 : decode cX4_follow 23 = .ok (.aload_n 1, 1) := by decide +kernel
theorem dX4_follow_24 : decode cX4_follow 24 = .ok (.getfield 34, 3) := by decide +kernel
theorem dX4_follow_27 : decode cX4_follow 27 = .ok (.if_icmp .ge 59, 3) := by decide +kernel
theorem dX4_follow_30 : decode cX4_follow 30 = .ok (.aload_n 0, 1) := by decide +kernel
theorem dX4_follow_31 : decode cX4_follow 31 = .ok (.aload_n 1, 1) := by decide +kernel
theorem dX4_follow_32 : decode cX4_follow 32 = .ok (.iload 5, 2) := by decide +kernel
theorem dX4_follow_34 : decode cX4_follow 34 = .ok (.iload_n 3, 1) := by decide +kernel
theorem dX4_follow_35 : decode cX4_follow 35 = .ok (.iload 4, 2) := by decide +kernel
theorem dX4_follow_37 : decode cX4_follow 37 = .ok (.invokevirtual 57, 3) := by decide +kernel
theorem dX4_follow_40 : decode cX4_follow 40 = .ok (.istore 6, 2) := by decide +kernel
theorem dX4_follow_42 : decode cX4_follow 42 = .ok (.iload 6, 2) := by decide +kernel
theorem dX4_follow_44 : decode cX4_follow 44 = .ok (.bipush 9, 2) := by decide +kernel
theorem dX4_follow_46 : decode cX4_follow 46 = .ok (.idiv, 1) := by decide +kernel
theorem dX4_follow_47 : decode cX4_follow 47 = .ok (.iconst 1, 1) := by decide +kernel
theorem dX4_follow_48 : decode cX4_follow 48 = .ok (.isub, 1) := by decide +kernel
theorem dX4_follow_49 : decode cX4_follow 49 = .ok (.istore_n 3, 1) := by decide +kernel
theorem dX4_follow_50 : decode cX4_follow 50 = .ok (.iload 6, 2) := by decide +kernel
theorem dX4_follow_52 : decode cX4_follow 52 = .ok (.bipush 9, 2) := by decide +kernel
theorem dX4_follow_54 : decode cX4_follow 54 = .ok (.irem, 1) := by decide +kernel
theorem dX4_follow_55 : decode cX4_follow 55 = .ok (.iconst 1, 1) := by decide +kernel
theorem dX4_follow_56 : decode cX4_follow 56 = .ok (.isub, 1) := by decide +kernel
theorem dX4_follow_57 : decode cX4_follow 57 = .ok (.istore 4, 2) := by decide +kernel
theorem dX4_follow_59 : decode cX4_follow 59 = .ok (.aload_n 0, 1) := by decide +kernel
theorem dX4_follow_60 : decode cX4_follow 60 = .ok (.getfield 24, 3) := by decide +kernel
theorem dX4_follow_63 : decode cX4_follow 63 = .ok (.iload 5, 2) := by decide +kernel
theorem dX4_follow_65 : decode cX4_follow 65 = .ok (.iload_n 3, 1) := by decide +kernel
theorem dX4_follow_66 : decode cX4_follow 66 = .ok (.invokestatic 61, 3) := by decide +kernel
theorem dX4_follow_69 : decode cX4_follow 69 = .ok (.aload_n 0, 1) := by decide +kernel
theorem dX4_follow_70 : decode cX4_follow 70 = .ok (.getfield 27, 3) := by decide +kernel
theorem dX4_follow_73 : decode cX4_follow 73 = .ok (.iload 5, 2) := by decide +kernel
theorem dX4_follow_75 : decode cX4_follow 75 = .ok (.iload 4, 2) := by decide +kernel
theorem dX4_follow_77 : decode cX4_follow 77 = .ok (.invokestatic 61, 3) := by decide +kernel
theorem dX4_follow_80 : decode cX4_follow 80 = .ok (.iinc 5 1, 3) := by decide +kernel
theorem dX4_follow_83 : decode cX4_follow 83 = .ok (.goto (-62), 3) := by decide +kernel
theorem dX4_follow_86 : decode cX4_follow 86 = .ok (.return_, 1) := by decide +kernel
theorem dX4_leftIn_0 : decode cX4_leftIn 0 = .ok (.iload_n 1, 1) := by decide +kernel
theorem dX4_leftIn_1 : decode cX4_leftIn 1 = .ok (.ifCond .lt 21, 3) := by decide +kernel
theorem dX4_leftIn_4 : decode cX4_leftIn 4 = .ok (.iload_n 1, 1) := by decide +kernel
theorem dX4_leftIn_5 : decode cX4_leftIn 5 = .ok (.aload_n 0, 1) := by decide +kernel
theorem dX4_leftIn_6 : decode cX4_leftIn 6 = .ok (.getfield 24, 3) := by decide +kernel
theorem dX4_leftIn_9 : decode cX4_leftIn 9 = .ok (.arraylength, 1) := by decide +kernel
theorem dX4_leftIn_10 : decode cX4_leftIn 10 = .ok (.if_icmp .ge 12, 3) := by decide +kernel
theorem dX4_leftIn_13 : decode cX4_leftIn 13 = .ok (.aload_n 0, 1) := by decide +kernel
theorem dX4_leftIn_14 : decode cX4_leftIn 14 = .ok (.getfield 24, 3) := by decide +kernel
theorem dX4_leftIn_17 : decode cX4_leftIn 17 = .ok (.iload_n 1, 1) := by decide +kernel
theorem dX4_leftIn_18 : decode cX4_leftIn 18 = .ok (.iaload, 1) := by decide +kernel
theorem dX4_leftIn_19 : decode cX4_leftIn 19 = .ok (.goto 4, 3) := by decide +kernel
theorem dX4_leftIn_22 : decode cX4_leftIn 22 = .ok (.iconst (-1), 1) := by decide +kernel
theorem dX4_leftIn_23 : decode cX4_leftIn 23 = .ok (.ireturn, 1) := by decide +kernel
theorem dX4_rightIn_0 : decode cX4_rightIn 0 = .ok (.iload_n 1, 1) := by decide +kernel
theorem dX4_rightIn_1 : decode cX4_rightIn 1 = .ok (.ifCond .lt 21, 3) := by decide +kernel
theorem dX4_rightIn_4 : decode cX4_rightIn 4 = .ok (.iload_n 1, 1) := by decide +kernel
theorem dX4_rightIn_5 : decode cX4_rightIn 5 = .ok (.aload_n 0, 1) := by decide +kernel
theorem dX4_rightIn_6 : decode cX4_rightIn 6 = .ok (.getfield 27, 3) := by decide +kernel
theorem dX4_rightIn_9 : decode cX4_rightIn 9 = .ok (.arraylength, 1) := by decide +kernel
theorem dX4_rightIn_10 : decode cX4_rightIn 10 = .ok (.if_icmp .ge 12, 3) := by decide +kernel
theorem dX4_rightIn_13 : decode cX4_rightIn 13 = .ok (.aload_n 0, 1) := by decide +kernel
theorem dX4_rightIn_14 : decode cX4_rightIn 14 = .ok (.getfield 27, 3) := by decide +kernel
theorem dX4_rightIn_17 : decode cX4_rightIn 17 = .ok (.iload_n 1, 1) := by decide +kernel
theorem dX4_rightIn_18 : decode cX4_rightIn 18 = .ok (.iaload, 1) := by decide +kernel
theorem dX4_rightIn_19 : decode cX4_rightIn 19 = .ok (.goto 4, 3) := by decide +kernel
theorem dX4_rightIn_22 : decode cX4_rightIn 22 = .ok (.iconst (-1), 1) := by decide +kernel
theorem dX4_rightIn_23 : decode cX4_rightIn 23 = .ok (.ireturn, 1) := by decide +kernel
theorem dX4_fewestLeftOut_0 : decode cX4_fewestLeftOut 0 = .ok (.aload_n 0, 1) := by decide +kernel
theorem dX4_fewestLeftOut_1 : decode cX4_fewestLeftOut 1 = .ok (.aload_n 1, 1) := by decide +kernel
theorem dX4_fewestLeftOut_2 : decode cX4_fewestLeftOut 2 = .ok (.iconst 0, 1) := by decide +kernel
theorem dX4_fewestLeftOut_3 : decode cX4_fewestLeftOut 3 = .ok (.invokevirtual 30, 3) := by decide +kernel
theorem dX4_fewestLeftOut_6 : decode cX4_fewestLeftOut 6 = .ok (.iconst 0, 1) := by decide +kernel
theorem dX4_fewestLeftOut_7 : decode cX4_fewestLeftOut 7 = .ok (.istore_n 3, 1) := by decide +kernel
theorem dX4_fewestLeftOut_8 : decode cX4_fewestLeftOut 8 = .ok (.iload_n 3, 1) := by decide +kernel
theorem dX4_fewestLeftOut_9 : decode cX4_fewestLeftOut 9 = .ok (.aload_n 1, 1) := by decide +kernel
theorem dX4_fewestLeftOut_10 : decode cX4_fewestLeftOut 10 = .ok (.getfield 34, 3) := by decide +kernel
theorem dX4_fewestLeftOut_13 : decode cX4_fewestLeftOut 13 = .ok (.if_icmp .ge 102, 3) := by decide +kernel
theorem dX4_fewestLeftOut_16 : decode cX4_fewestLeftOut 16 = .ok (.aload_n 1, 1) := by decide +kernel
theorem dX4_fewestLeftOut_17 : decode cX4_fewestLeftOut 17 = .ok (.getfield 34, 3) := by decide +kernel
theorem dX4_fewestLeftOut_20 : decode cX4_fewestLeftOut 20 = .ok (.iconst 1, 1) := by decide +kernel
theorem dX4_fewestLeftOut_21 : decode cX4_fewestLeftOut 21 = .ok (.isub, 1) := by decide +kernel
theorem dX4_fewestLeftOut_22 : decode cX4_fewestLeftOut 22 = .ok (.istore 4, 2) := by decide +kernel
theorem dX4_fewestLeftOut_24 : decode cX4_fewestLeftOut 24 = .ok (.iload 4, 2) := by decide +kernel
theorem dX4_fewestLeftOut_26 : decode cX4_fewestLeftOut 26 = .ok (.ifCond .lt 46, 3) := by decide +kernel
theorem dX4_fewestLeftOut_29 : decode cX4_fewestLeftOut 29 = .ok (.aload_n 1, 1) := by decide +kernel
theorem dX4_fewestLeftOut_30 : decode cX4_fewestLeftOut 30 = .ok (.iload 4, 2) := by decide +kernel
theorem dX4_fewestLeftOut_32 : decode cX4_fewestLeftOut 32 = .ok (.invokevirtual 65, 3) := by decide +kernel
theorem dX4_fewestLeftOut_35 : decode cX4_fewestLeftOut 35 = .ok (.ifCond .eq 14, 3) := by decide +kernel
theorem dX4_fewestLeftOut_38 : decode cX4_fewestLeftOut 38 = .ok (.aload_n 0, 1) := by decide +kernel
theorem dX4_fewestLeftOut_39 : decode cX4_fewestLeftOut 39 = .ok (.iload 4, 2) := by decide +kernel
theorem dX4_fewestLeftOut_41 : decode cX4_fewestLeftOut 41 = .ok (.ldc 69, 2) := by decide +kernel
theorem dX4_fewestLeftOut_43 : decode cX4_fewestLeftOut 43 = .ok (.invokevirtual 70, 3) := by decide +kernel
theorem dX4_fewestLeftOut_46 : decode cX4_fewestLeftOut 46 = .ok (.goto 10, 3) := by decide +kernel
theorem dX4_fewestLeftOut_49 : decode cX4_fewestLeftOut 49 = .ok (.aload_n 0, 1) := by decide +kernel
theorem dX4_fewestLeftOut_50 : decode cX4_fewestLeftOut 50 = .ok (.aload_n 1, 1) := by decide +kernel
theorem dX4_fewestLeftOut_51 : decode cX4_fewestLeftOut 51 = .ok (.iload 4, 2) := by decide +kernel
theorem dX4_fewestLeftOut_53 : decode cX4_fewestLeftOut 53 = .ok (.invokevirtual 40, 3) := by decide +kernel
theorem dX4_fewestLeftOut_56 : decode cX4_fewestLeftOut 56 = .ok (.iload_n 3, 1) := by decide +kernel
theorem dX4_fewestLeftOut_57 : decode cX4_fewestLeftOut 57 = .ok (.ifCond .le 9, 3) := by decide +kernel
theorem dX4_fewestLeftOut_60 : decode cX4_fewestLeftOut 60 = .ok (.aload_n 0, 1) := by decide +kernel
theorem dX4_fewestLeftOut_61 : decode cX4_fewestLeftOut 61 = .ok (.iload 4, 2) := by decide +kernel
theorem dX4_fewestLeftOut_63 : decode cX4_fewestLeftOut 63 = .ok (.invokevirtual 74, 3) := by decide +kernel
theorem dX4_fewestLeftOut_66 : decode cX4_fewestLeftOut 66 = .ok (.iinc 4 (-1), 3) := by decide +kernel
theorem dX4_fewestLeftOut_69 : decode cX4_fewestLeftOut 69 = .ok (.goto (-45), 3) := by decide +kernel
theorem dX4_fewestLeftOut_72 : decode cX4_fewestLeftOut 72 = .ok (.aload_n 0, 1) := by decide +kernel
theorem dX4_fewestLeftOut_73 : decode cX4_fewestLeftOut 73 = .ok (.iconst 0, 1) := by decide +kernel
theorem dX4_fewestLeftOut_74 : decode cX4_fewestLeftOut 74 = .ok (.aload_n 1, 1) := by decide +kernel
theorem dX4_fewestLeftOut_75 : decode cX4_fewestLeftOut 75 = .ok (.getfield 43, 3) := by decide +kernel
theorem dX4_fewestLeftOut_78 : decode cX4_fewestLeftOut 78 = .ok (.aload_n 1, 1) := by decide +kernel
theorem dX4_fewestLeftOut_79 : decode cX4_fewestLeftOut 79 = .ok (.getfield 46, 3) := by decide +kernel
theorem dX4_fewestLeftOut_82 : decode cX4_fewestLeftOut 82 = .ok (.invokevirtual 49, 3) := by decide +kernel
theorem dX4_fewestLeftOut_85 : decode cX4_fewestLeftOut 85 = .ok (.iload_n 2, 1) := by decide +kernel
theorem dX4_fewestLeftOut_86 : decode cX4_fewestLeftOut 86 = .ok (.if_icmp .gt 5, 3) := by decide +kernel
theorem dX4_fewestLeftOut_89 : decode cX4_fewestLeftOut 89 = .ok (.iload_n 3, 1) := by decide +kernel
theorem dX4_fewestLeftOut_90 : decode cX4_fewestLeftOut 90 = .ok (.ireturn, 1) := by decide +kernel
theorem dX4_fewestLeftOut_91 : decode cX4_fewestLeftOut 91 = .ok (.aload_n 0, 1) := by decide +kernel
theorem dX4_fewestLeftOut_92 : decode cX4_fewestLeftOut 92 = .ok (.getfield 11, 3) := by decide +kernel
theorem dX4_fewestLeftOut_95 : decode cX4_fewestLeftOut 95 = .ok (.iconst 0, 1) := by decide +kernel
theorem dX4_fewestLeftOut_96 : decode cX4_fewestLeftOut 96 = .ok (.aload_n 0, 1) := by decide +kernel
theorem dX4_fewestLeftOut_97 : decode cX4_fewestLeftOut 97 = .ok (.getfield 15, 3) := by decide +kernel
theorem dX4_fewestLeftOut_100 : decode cX4_fewestLeftOut 100 = .ok (.iconst 0, 1) := by decide +kernel
theorem dX4_fewestLeftOut_101 : decode cX4_fewestLeftOut 101 = .ok (.aload_n 0, 1) := by decide +kernel
theorem dX4_fewestLeftOut_102 : decode cX4_fewestLeftOut 102 = .ok (.getfield 11, 3) := by decide +kernel
theorem dX4_fewestLeftOut_105 : decode cX4_fewestLeftOut 105 = .ok (.arraylength, 1) := by decide +kernel
theorem dX4_fewestLeftOut_106 : decode cX4_fewestLeftOut 106 = .ok (.invokestatic 78, 3) := by decide +kernel
theorem dX4_fewestLeftOut_109 : decode cX4_fewestLeftOut 109 = .ok (.iinc 3 1, 3) := by decide +kernel
theorem dX4_fewestLeftOut_112 : decode cX4_fewestLeftOut 112 = .ok (.goto (-104), 3) := by decide +kernel
theorem dX4_fewestLeftOut_115 : decode cX4_fewestLeftOut 115 = .ok (.aload_n 1, 1) := by decide +kernel
theorem dX4_fewestLeftOut_116 : decode cX4_fewestLeftOut 116 = .ok (.getfield 34, 3) := by decide +kernel
theorem dX4_fewestLeftOut_119 : decode cX4_fewestLeftOut 119 = .ok (.ireturn, 1) := by decide +kernel
theorem dX4_place_0 : decode cX4_place 0 = .ok (.iload_n 0, 1) := by decide +kernel
theorem dX4_place_1 : decode cX4_place 1 = .ok (.iconst 1, 1) := by decide +kernel
theorem dX4_place_2 : decode cX4_place 2 = .ok (.iadd, 1) := by decide +kernel
theorem dX4_place_3 : decode cX4_place 3 = .ok (.bipush 9, 2) := by decide +kernel
theorem dX4_place_5 : decode cX4_place 5 = .ok (.imul, 1) := by decide +kernel
theorem dX4_place_6 : decode cX4_place 6 = .ok (.iload_n 1, 1) := by decide +kernel
theorem dX4_place_7 : decode cX4_place 7 = .ok (.iadd, 1) := by decide +kernel
theorem dX4_place_8 : decode cX4_place 8 = .ok (.iconst 1, 1) := by decide +kernel
theorem dX4_place_9 : decode cX4_place 9 = .ok (.iadd, 1) := by decide +kernel
theorem dX4_place_10 : decode cX4_place 10 = .ok (.ireturn, 1) := by decide +kernel
theorem dX4_worthFrom_0 : decode cX4_worthFrom 0 = .ok (.aload_n 0, 1) := by decide +kernel
theorem dX4_worthFrom_1 : decode cX4_worthFrom 1 = .ok (.getfield 11, 3) := by decide +kernel
theorem dX4_worthFrom_4 : decode cX4_worthFrom 4 = .ok (.iload_n 1, 1) := by decide +kernel
theorem dX4_worthFrom_5 : decode cX4_worthFrom 5 = .ok (.bipush 81, 2) := by decide +kernel
theorem dX4_worthFrom_7 : decode cX4_worthFrom 7 = .ok (.imul, 1) := by decide +kernel
theorem dX4_worthFrom_8 : decode cX4_worthFrom 8 = .ok (.iload_n 2, 1) := by decide +kernel
theorem dX4_worthFrom_9 : decode cX4_worthFrom 9 = .ok (.iload_n 3, 1) := by decide +kernel
theorem dX4_worthFrom_10 : decode cX4_worthFrom 10 = .ok (.invokestatic 84, 3) := by decide +kernel
theorem dX4_worthFrom_13 : decode cX4_worthFrom 13 = .ok (.iadd, 1) := by decide +kernel
theorem dX4_worthFrom_14 : decode cX4_worthFrom 14 = .ok (.invokestatic 88, 3) := by decide +kernel
theorem dX4_worthFrom_17 : decode cX4_worthFrom 17 = .ok (.ireturn, 1) := by decide +kernel
theorem dX4_begin_0 : decode cX4_begin 0 = .ok (.iconst (-1), 1) := by decide +kernel
theorem dX4_begin_1 : decode cX4_begin 1 = .ok (.istore_n 3, 1) := by decide +kernel
theorem dX4_begin_2 : decode cX4_begin 2 = .ok (.iload_n 3, 1) := by decide +kernel
theorem dX4_begin_3 : decode cX4_begin 3 = .ok (.aload_n 1, 1) := by decide +kernel
theorem dX4_begin_4 : decode cX4_begin 4 = .ok (.getfield 92, 3) := by decide +kernel
theorem dX4_begin_7 : decode cX4_begin 7 = .ok (.if_icmp .ge 25, 3) := by decide +kernel
theorem dX4_begin_10 : decode cX4_begin 10 = .ok (.aload_n 0, 1) := by decide +kernel
theorem dX4_begin_11 : decode cX4_begin 11 = .ok (.getfield 21, 3) := by decide +kernel
theorem dX4_begin_14 : decode cX4_begin 14 = .ok (.iload_n 3, 1) := by decide +kernel
theorem dX4_begin_15 : decode cX4_begin 15 = .ok (.iconst 1, 1) := by decide +kernel
theorem dX4_begin_16 : decode cX4_begin 16 = .ok (.iadd, 1) := by decide +kernel
theorem dX4_begin_17 : decode cX4_begin 17 = .ok (.aload_n 1, 1) := by decide +kernel
theorem dX4_begin_18 : decode cX4_begin 18 = .ok (.iload_n 3, 1) := by decide +kernel
theorem dX4_begin_19 : decode cX4_begin 19 = .ok (.iload_n 2, 1) := by decide +kernel
theorem dX4_begin_20 : decode cX4_begin 20 = .ok (.invokevirtual 95, 3) := by decide +kernel
theorem dX4_begin_23 : decode cX4_begin 23 = .ok (.invokestatic 61, 3) := by decide +kernel
theorem dX4_begin_26 : decode cX4_begin 26 = .ok (.iinc 3 1, 3) := by decide +kernel
theorem dX4_begin_29 : decode cX4_begin 29 = .ok (.goto (-27), 3) := by decide +kernel
theorem dX4_begin_32 : decode cX4_begin 32 = .ok (.aload_n 0, 1) := by decide +kernel
theorem dX4_begin_33 : decode cX4_begin 33 = .ok (.aload_n 1, 1) := by decide +kernel
theorem dX4_begin_34 : decode cX4_begin 34 = .ok (.getfield 34, 3) := by decide +kernel
theorem dX4_begin_37 : decode cX4_begin 37 = .ok (.iconst 0, 1) := by decide +kernel
theorem dX4_begin_38 : decode cX4_begin 38 = .ok (.invokevirtual 70, 3) := by decide +kernel
theorem dX4_begin_41 : decode cX4_begin 41 = .ok (.return_, 1) := by decide +kernel
theorem dX4_fillRow_0 : decode cX4_fillRow 0 = .ok (.iconst 0, 1) := by decide +kernel
theorem dX4_fillRow_1 : decode cX4_fillRow 1 = .ok (.istore_n 3, 1) := by decide +kernel
theorem dX4_fillRow_2 : decode cX4_fillRow 2 = .ok (.iload_n 3, 1) := by decide +kernel
theorem dX4_fillRow_3 : decode cX4_fillRow 3 = .ok (.bipush 81, 2) := by decide +kernel
theorem dX4_fillRow_5 : decode cX4_fillRow 5 = .ok (.if_icmp .ge 23, 3) := by decide +kernel
theorem dX4_fillRow_8 : decode cX4_fillRow 8 = .ok (.aload_n 0, 1) := by decide +kernel
theorem dX4_fillRow_9 : decode cX4_fillRow 9 = .ok (.getfield 11, 3) := by decide +kernel
theorem dX4_fillRow_12 : decode cX4_fillRow 12 = .ok (.iload_n 1, 1) := by decide +kernel
theorem dX4_fillRow_13 : decode cX4_fillRow 13 = .ok (.bipush 81, 2) := by decide +kernel
theorem dX4_fillRow_15 : decode cX4_fillRow 15 = .ok (.imul, 1) := by decide +kernel
theorem dX4_fillRow_16 : decode cX4_fillRow 16 = .ok (.iload_n 3, 1) := by decide +kernel
theorem dX4_fillRow_17 : decode cX4_fillRow 17 = .ok (.iadd, 1) := by decide +kernel
theorem dX4_fillRow_18 : decode cX4_fillRow 18 = .ok (.iload_n 2, 1) := by decide +kernel
theorem dX4_fillRow_19 : decode cX4_fillRow 19 = .ok (.invokestatic 61, 3) := by decide +kernel
theorem dX4_fillRow_22 : decode cX4_fillRow 22 = .ok (.iinc 3 1, 3) := by decide +kernel
theorem dX4_fillRow_25 : decode cX4_fillRow 25 = .ok (.goto (-23), 3) := by decide +kernel
theorem dX4_fillRow_28 : decode cX4_fillRow 28 = .ok (.return_, 1) := by decide +kernel
theorem dX4_stepBack_0 : decode cX4_stepBack 0 = .ok (.iload_n 2, 1) := by decide +kernel
theorem dX4_stepBack_1 : decode cX4_stepBack 1 = .ok (.bipush 81, 2) := by decide +kernel
theorem dX4_stepBack_3 : decode cX4_stepBack 3 = .ok (.imul, 1) := by decide +kernel
theorem dX4_stepBack_4 : decode cX4_stepBack 4 = .ok (.istore_n 3, 1) := by decide +kernel
theorem dX4_stepBack_5 : decode cX4_stepBack 5 = .ok (.iload_n 3, 1) := by decide +kernel
theorem dX4_stepBack_6 : decode cX4_stepBack 6 = .ok (.bipush 81, 2) := by decide +kernel
theorem dX4_stepBack_8 : decode cX4_stepBack 8 = .ok (.iadd, 1) := by decide +kernel
theorem dX4_stepBack_9 : decode cX4_stepBack 9 = .ok (.istore 4, 2) := by decide +kernel
theorem dX4_stepBack_11 : decode cX4_stepBack 11 = .ok (.iconst (-1), 1) := by decide +kernel
theorem dX4_stepBack_12 : decode cX4_stepBack 12 = .ok (.istore 5, 2) := by decide +kernel
theorem dX4_stepBack_14 : decode cX4_stepBack 14 = .ok (.iload 5, 2) := by decide +kernel
theorem dX4_stepBack_16 : decode cX4_stepBack 16 = .ok (.aload_n 1, 1) := by decide +kernel
theorem dX4_stepBack_17 : decode cX4_stepBack 17 = .ok (.getfield 92, 3) := by decide +kernel
theorem dX4_stepBack_20 : decode cX4_stepBack 20 = .ok (.if_icmp .ge 162, 3) := by decide +kernel
theorem dX4_stepBack_23 : decode cX4_stepBack 23 = .ok (.aload_n 1, 1) := by decide +kernel
theorem dX4_stepBack_24 : decode cX4_stepBack 24 = .ok (.iload_n 2, 1) := by decide +kernel
theorem dX4_stepBack_25 : decode cX4_stepBack 25 = .ok (.iload 5, 2) := by decide +kernel
theorem dX4_stepBack_27 : decode cX4_stepBack 27 = .ok (.invokevirtual 98, 3) := by decide +kernel
theorem dX4_stepBack_30 : decode cX4_stepBack 30 = .ok (.istore 6, 2) := by decide +kernel
theorem dX4_stepBack_32 : decode cX4_stepBack 32 = .ok (.ldc 69, 2) := by decide +kernel
theorem dX4_stepBack_34 : decode cX4_stepBack 34 = .ok (.istore 7, 2) := by decide +kernel
theorem dX4_stepBack_36 : decode cX4_stepBack 36 = .ok (.iconst (-1), 1) := by decide +kernel
theorem dX4_stepBack_37 : decode cX4_stepBack 37 = .ok (.istore 8, 2) := by decide +kernel
theorem dX4_stepBack_39 : decode cX4_stepBack 39 = .ok (.iload 8, 2) := by decide +kernel
theorem dX4_stepBack_41 : decode cX4_stepBack 41 = .ok (.aload_n 1, 1) := by decide +kernel
theorem dX4_stepBack_42 : decode cX4_stepBack 42 = .ok (.getfield 92, 3) := by decide +kernel
theorem dX4_stepBack_45 : decode cX4_stepBack 45 = .ok (.if_icmp .ge 81, 3) := by decide +kernel
theorem dX4_stepBack_48 : decode cX4_stepBack 48 = .ok (.iload 5, 2) := by decide +kernel
theorem dX4_stepBack_50 : decode cX4_stepBack 50 = .ok (.iload 8, 2) := by decide +kernel
theorem dX4_stepBack_52 : decode cX4_stepBack 52 = .ok (.invokestatic 84, 3) := by decide +kernel
theorem dX4_stepBack_55 : decode cX4_stepBack 55 = .ok (.istore 9, 2) := by decide +kernel
theorem dX4_stepBack_57 : decode cX4_stepBack 57 = .ok (.iload 6, 2) := by decide +kernel
theorem dX4_stepBack_59 : decode cX4_stepBack 59 = .ok (.iload 8, 2) := by decide +kernel
theorem dX4_stepBack_61 : decode cX4_stepBack 61 = .ok (.iconst 1, 1) := by decide +kernel
theorem dX4_stepBack_62 : decode cX4_stepBack 62 = .ok (.iadd, 1) := by decide +kernel
theorem dX4_stepBack_63 : decode cX4_stepBack 63 = .ok (.ishr, 1) := by decide +kernel
theorem dX4_stepBack_64 : decode cX4_stepBack 64 = .ok (.iconst 1, 1) := by decide +kernel
theorem dX4_stepBack_65 : decode cX4_stepBack 65 = .ok (.iand, 1) := by decide +kernel
theorem dX4_stepBack_66 : decode cX4_stepBack 66 = .ok (.ifCond .eq 18, 3) := by decide +kernel
theorem dX4_stepBack_69 : decode cX4_stepBack 69 = .ok (.aload_n 0, 1) := by decide +kernel
theorem dX4_stepBack_70 : decode cX4_stepBack 70 = .ok (.getfield 11, 3) := by decide +kernel
theorem dX4_stepBack_73 : decode cX4_stepBack 73 = .ok (.iload 4, 2) := by decide +kernel
theorem dX4_stepBack_75 : decode cX4_stepBack 75 = .ok (.iload 9, 2) := by decide +kernel
theorem dX4_stepBack_77 : decode cX4_stepBack 77 = .ok (.iadd, 1) := by decide +kernel
theorem dX4_stepBack_78 : decode cX4_stepBack 78 = .ok (.invokestatic 88, 3) := by decide +kernel
theorem dX4_stepBack_81 : decode cX4_stepBack 81 = .ok (.goto 5, 3) := by decide +kernel
theorem dX4_stepBack_84 : decode cX4_stepBack 84 = .ok (.ldc 69, 2) := by decide +kernel
theorem dX4_stepBack_86 : decode cX4_stepBack 86 = .ok (.istore 10, 2) := by decide +kernel
theorem dX4_stepBack_88 : decode cX4_stepBack 88 = .ok (.aload_n 0, 1) := by decide +kernel
theorem dX4_stepBack_89 : decode cX4_stepBack 89 = .ok (.getfield 18, 3) := by decide +kernel
theorem dX4_stepBack_92 : decode cX4_stepBack 92 = .ok (.iload 9, 2) := by decide +kernel
theorem dX4_stepBack_94 : decode cX4_stepBack 94 = .ok (.iload 10, 2) := by decide +kernel
theorem dX4_stepBack_96 : decode cX4_stepBack 96 = .ok (.invokestatic 61, 3) := by decide +kernel
theorem dX4_stepBack_99 : decode cX4_stepBack 99 = .ok (.iload 7, 2) := by decide +kernel
theorem dX4_stepBack_101 : decode cX4_stepBack 101 = .ok (.iload 10, 2) := by decide +kernel
theorem dX4_stepBack_103 : decode cX4_stepBack 103 = .ok (.aload_n 0, 1) := by decide +kernel
theorem dX4_stepBack_104 : decode cX4_stepBack 104 = .ok (.getfield 21, 3) := by decide +kernel
theorem dX4_stepBack_107 : decode cX4_stepBack 107 = .ok (.iload 8, 2) := by decide +kernel
theorem dX4_stepBack_109 : decode cX4_stepBack 109 = .ok (.iconst 1, 1) := by decide +kernel
theorem dX4_stepBack_110 : decode cX4_stepBack 110 = .ok (.iadd, 1) := by decide +kernel
theorem dX4_stepBack_111 : decode cX4_stepBack 111 = .ok (.invokestatic 88, 3) := by decide +kernel
theorem dX4_stepBack_114 : decode cX4_stepBack 114 = .ok (.iadd, 1) := by decide +kernel
theorem dX4_stepBack_115 : decode cX4_stepBack 115 = .ok (.invokestatic 101, 3) := by decide +kernel
theorem dX4_stepBack_118 : decode cX4_stepBack 118 = .ok (.istore 7, 2) := by decide +kernel
theorem dX4_stepBack_120 : decode cX4_stepBack 120 = .ok (.iinc 8 1, 3) := by decide +kernel
theorem dX4_stepBack_123 : decode cX4_stepBack 123 = .ok (.goto (-84), 3) := by decide +kernel
theorem dX4_stepBack_126 : decode cX4_stepBack 126 = .ok (.iconst (-1), 1) := by decide +kernel
theorem dX4_stepBack_127 : decode cX4_stepBack 127 = .ok (.istore 8, 2) := by decide +kernel
theorem dX4_stepBack_129 : decode cX4_stepBack 129 = .ok (.iload 8, 2) := by decide +kernel
theorem dX4_stepBack_131 : decode cX4_stepBack 131 = .ok (.aload_n 1, 1) := by decide +kernel
theorem dX4_stepBack_132 : decode cX4_stepBack 132 = .ok (.getfield 92, 3) := by decide +kernel
theorem dX4_stepBack_135 : decode cX4_stepBack 135 = .ok (.if_icmp .ge 41, 3) := by decide +kernel
theorem dX4_stepBack_138 : decode cX4_stepBack 138 = .ok (.iload 5, 2) := by decide +kernel
theorem dX4_stepBack_140 : decode cX4_stepBack 140 = .ok (.iload 8, 2) := by decide +kernel
theorem dX4_stepBack_142 : decode cX4_stepBack 142 = .ok (.invokestatic 84, 3) := by decide +kernel
theorem dX4_stepBack_145 : decode cX4_stepBack 145 = .ok (.istore 9, 2) := by decide +kernel
theorem dX4_stepBack_147 : decode cX4_stepBack 147 = .ok (.aload_n 0, 1) := by decide +kernel
theorem dX4_stepBack_148 : decode cX4_stepBack 148 = .ok (.getfield 18, 3) := by decide +kernel
theorem dX4_stepBack_151 : decode cX4_stepBack 151 = .ok (.iload 9, 2) := by decide +kernel
theorem dX4_stepBack_153 : decode cX4_stepBack 153 = .ok (.aload_n 0, 1) := by decide +kernel
theorem dX4_stepBack_154 : decode cX4_stepBack 154 = .ok (.getfield 18, 3) := by decide +kernel
theorem dX4_stepBack_157 : decode cX4_stepBack 157 = .ok (.iload 9, 2) := by decide +kernel
theorem dX4_stepBack_159 : decode cX4_stepBack 159 = .ok (.invokestatic 88, 3) := by decide +kernel
theorem dX4_stepBack_162 : decode cX4_stepBack 162 = .ok (.iload 7, 2) := by decide +kernel
theorem dX4_stepBack_164 : decode cX4_stepBack 164 = .ok (.invokestatic 101, 3) := by decide +kernel
theorem dX4_stepBack_167 : decode cX4_stepBack 167 = .ok (.invokestatic 61, 3) := by decide +kernel
theorem dX4_stepBack_170 : decode cX4_stepBack 170 = .ok (.iinc 8 1, 3) := by decide +kernel
theorem dX4_stepBack_173 : decode cX4_stepBack 173 = .ok (.goto (-44), 3) := by decide +kernel
theorem dX4_stepBack_176 : decode cX4_stepBack 176 = .ok (.iinc 5 1, 3) := by decide +kernel
theorem dX4_stepBack_179 : decode cX4_stepBack 179 = .ok (.goto (-165), 3) := by decide +kernel
theorem dX4_stepBack_182 : decode cX4_stepBack 182 = .ok (.iconst (-1), 1) := by decide +kernel
theorem dX4_stepBack_183 : decode cX4_stepBack 183 = .ok (.istore 5, 2) := by decide +kernel
theorem dX4_stepBack_185 : decode cX4_stepBack 185 = .ok (.iload 5, 2) := by decide +kernel
theorem dX4_stepBack_187 : decode cX4_stepBack 187 = .ok (.aload_n 1, 1) := by decide +kernel
theorem dX4_stepBack_188 : decode cX4_stepBack 188 = .ok (.getfield 92, 3) := by decide +kernel
theorem dX4_stepBack_191 : decode cX4_stepBack 191 = .ok (.if_icmp .ge 120, 3) := by decide +kernel
theorem dX4_stepBack_194 : decode cX4_stepBack 194 = .ok (.ldc 69, 2) := by decide +kernel
theorem dX4_stepBack_196 : decode cX4_stepBack 196 = .ok (.istore 6, 2) := by decide +kernel
theorem dX4_stepBack_198 : decode cX4_stepBack 198 = .ok (.iconst (-1), 1) := by decide +kernel
theorem dX4_stepBack_199 : decode cX4_stepBack 199 = .ok (.istore 7, 2) := by decide +kernel
theorem dX4_stepBack_201 : decode cX4_stepBack 201 = .ok (.iload 7, 2) := by decide +kernel
theorem dX4_stepBack_203 : decode cX4_stepBack 203 = .ok (.aload_n 1, 1) := by decide +kernel
theorem dX4_stepBack_204 : decode cX4_stepBack 204 = .ok (.getfield 92, 3) := by decide +kernel
theorem dX4_stepBack_207 : decode cX4_stepBack 207 = .ok (.if_icmp .ge 46, 3) := by decide +kernel
theorem dX4_stepBack_210 : decode cX4_stepBack 210 = .ok (.aload_n 0, 1) := by decide +kernel
theorem dX4_stepBack_211 : decode cX4_stepBack 211 = .ok (.getfield 18, 3) := by decide +kernel
theorem dX4_stepBack_214 : decode cX4_stepBack 214 = .ok (.iload 7, 2) := by decide +kernel
theorem dX4_stepBack_216 : decode cX4_stepBack 216 = .ok (.iload 5, 2) := by decide +kernel
theorem dX4_stepBack_218 : decode cX4_stepBack 218 = .ok (.invokestatic 84, 3) := by decide +kernel
theorem dX4_stepBack_221 : decode cX4_stepBack 221 = .ok (.invokestatic 88, 3) := by decide +kernel
theorem dX4_stepBack_224 : decode cX4_stepBack 224 = .ok (.istore 8, 2) := by decide +kernel
theorem dX4_stepBack_226 : decode cX4_stepBack 226 = .ok (.iload 6, 2) := by decide +kernel
theorem dX4_stepBack_228 : decode cX4_stepBack 228 = .ok (.iload 8, 2) := by decide +kernel
theorem dX4_stepBack_230 : decode cX4_stepBack 230 = .ok (.aload_n 0, 1) := by decide +kernel
theorem dX4_stepBack_231 : decode cX4_stepBack 231 = .ok (.getfield 21, 3) := by decide +kernel
theorem dX4_stepBack_234 : decode cX4_stepBack 234 = .ok (.iload 7, 2) := by decide +kernel
theorem dX4_stepBack_236 : decode cX4_stepBack 236 = .ok (.iconst 1, 1) := by decide +kernel
theorem dX4_stepBack_237 : decode cX4_stepBack 237 = .ok (.iadd, 1) := by decide +kernel
theorem dX4_stepBack_238 : decode cX4_stepBack 238 = .ok (.invokestatic 88, 3) := by decide +kernel
theorem dX4_stepBack_241 : decode cX4_stepBack 241 = .ok (.iadd, 1) := by decide +kernel
theorem dX4_stepBack_242 : decode cX4_stepBack 242 = .ok (.invokestatic 101, 3) := by decide +kernel
theorem dX4_stepBack_245 : decode cX4_stepBack 245 = .ok (.istore 6, 2) := by decide +kernel
theorem dX4_stepBack_247 : decode cX4_stepBack 247 = .ok (.iinc 7 1, 3) := by decide +kernel
theorem dX4_stepBack_250 : decode cX4_stepBack 250 = .ok (.goto (-49), 3) := by decide +kernel
theorem dX4_stepBack_253 : decode cX4_stepBack 253 = .ok (.iconst (-1), 1) := by decide +kernel
theorem dX4_stepBack_254 : decode cX4_stepBack 254 = .ok (.istore 7, 2) := by decide +kernel
theorem dX4_stepBack_256 : decode cX4_stepBack 256 = .ok (.iload 7, 2) := by decide +kernel
theorem dX4_stepBack_258 : decode cX4_stepBack 258 = .ok (.aload_n 1, 1) := by decide +kernel
theorem dX4_stepBack_259 : decode cX4_stepBack 259 = .ok (.getfield 92, 3) := by decide +kernel
theorem dX4_stepBack_262 : decode cX4_stepBack 262 = .ok (.if_icmp .ge 43, 3) := by decide +kernel
theorem dX4_stepBack_265 : decode cX4_stepBack 265 = .ok (.iload 7, 2) := by decide +kernel
theorem dX4_stepBack_267 : decode cX4_stepBack 267 = .ok (.iload 5, 2) := by decide +kernel
theorem dX4_stepBack_269 : decode cX4_stepBack 269 = .ok (.invokestatic 84, 3) := by decide +kernel
theorem dX4_stepBack_272 : decode cX4_stepBack 272 = .ok (.istore 8, 2) := by decide +kernel
theorem dX4_stepBack_274 : decode cX4_stepBack 274 = .ok (.aload_n 0, 1) := by decide +kernel
theorem dX4_stepBack_275 : decode cX4_stepBack 275 = .ok (.getfield 11, 3) := by decide +kernel
theorem dX4_stepBack_278 : decode cX4_stepBack 278 = .ok (.iload_n 3, 1) := by decide +kernel
theorem dX4_stepBack_279 : decode cX4_stepBack 279 = .ok (.iload 8, 2) := by decide +kernel
theorem dX4_stepBack_281 : decode cX4_stepBack 281 = .ok (.iadd, 1) := by decide +kernel
theorem dX4_stepBack_282 : decode cX4_stepBack 282 = .ok (.aload_n 0, 1) := by decide +kernel
theorem dX4_stepBack_283 : decode cX4_stepBack 283 = .ok (.getfield 18, 3) := by decide +kernel
theorem dX4_stepBack_286 : decode cX4_stepBack 286 = .ok (.iload 8, 2) := by decide +kernel
theorem dX4_stepBack_288 : decode cX4_stepBack 288 = .ok (.invokestatic 88, 3) := by decide +kernel
theorem dX4_stepBack_291 : decode cX4_stepBack 291 = .ok (.iload 6, 2) := by decide +kernel
theorem dX4_stepBack_293 : decode cX4_stepBack 293 = .ok (.invokestatic 101, 3) := by decide +kernel
theorem dX4_stepBack_296 : decode cX4_stepBack 296 = .ok (.invokestatic 61, 3) := by decide +kernel
theorem dX4_stepBack_299 : decode cX4_stepBack 299 = .ok (.iinc 7 1, 3) := by decide +kernel
theorem dX4_stepBack_302 : decode cX4_stepBack 302 = .ok (.goto (-46), 3) := by decide +kernel
theorem dX4_stepBack_305 : decode cX4_stepBack 305 = .ok (.iinc 5 1, 3) := by decide +kernel
theorem dX4_stepBack_308 : decode cX4_stepBack 308 = .ok (.goto (-123), 3) := by decide +kernel
theorem dX4_stepBack_311 : decode cX4_stepBack 311 = .ok (.return_, 1) := by decide +kernel
theorem dX4_leaveOut_0 : decode cX4_leaveOut 0 = .ok (.iconst 0, 1) := by decide +kernel
theorem dX4_leaveOut_1 : decode cX4_leaveOut 1 = .ok (.istore_n 2, 1) := by decide +kernel
theorem dX4_leaveOut_2 : decode cX4_leaveOut 2 = .ok (.iload_n 2, 1) := by decide +kernel
theorem dX4_leaveOut_3 : decode cX4_leaveOut 3 = .ok (.bipush 81, 2) := by decide +kernel
theorem dX4_leaveOut_5 : decode cX4_leaveOut 5 = .ok (.if_icmp .ge 50, 3) := by decide +kernel
theorem dX4_leaveOut_8 : decode cX4_leaveOut 8 = .ok (.iload_n 1, 1) := by decide +kernel
theorem dX4_leaveOut_9 : decode cX4_leaveOut 9 = .ok (.bipush 81, 2) := by decide +kernel
theorem dX4_leaveOut_11 : decode cX4_leaveOut 11 = .ok (.imul, 1) := by decide +kernel
theorem dX4_leaveOut_12 : decode cX4_leaveOut 12 = .ok (.iload_n 2, 1) := by decide +kernel
theorem dX4_leaveOut_13 : decode cX4_leaveOut 13 = .ok (.iadd, 1) := by decide +kernel
theorem dX4_leaveOut_14 : decode cX4_leaveOut 14 = .ok (.istore_n 3, 1) := by decide +kernel
theorem dX4_leaveOut_15 : decode cX4_leaveOut 15 = .ok (.aload_n 0, 1) := by decide +kernel
theorem dX4_leaveOut_16 : decode cX4_leaveOut 16 = .ok (.getfield 15, 3) := by decide +kernel
theorem dX4_leaveOut_19 : decode cX4_leaveOut 19 = .ok (.iload_n 3, 1) := by decide +kernel
theorem dX4_leaveOut_20 : decode cX4_leaveOut 20 = .ok (.bipush 81, 2) := by decide +kernel
theorem dX4_leaveOut_22 : decode cX4_leaveOut 22 = .ok (.iadd, 1) := by decide +kernel
theorem dX4_leaveOut_23 : decode cX4_leaveOut 23 = .ok (.invokestatic 88, 3) := by decide +kernel
theorem dX4_leaveOut_26 : decode cX4_leaveOut 26 = .ok (.istore 4, 2) := by decide +kernel
theorem dX4_leaveOut_28 : decode cX4_leaveOut 28 = .ok (.aload_n 0, 1) := by decide +kernel
theorem dX4_leaveOut_29 : decode cX4_leaveOut 29 = .ok (.getfield 11, 3) := by decide +kernel
theorem dX4_leaveOut_32 : decode cX4_leaveOut 32 = .ok (.iload_n 3, 1) := by decide +kernel
theorem dX4_leaveOut_33 : decode cX4_leaveOut 33 = .ok (.aload_n 0, 1) := by decide +kernel
theorem dX4_leaveOut_34 : decode cX4_leaveOut 34 = .ok (.getfield 11, 3) := by decide +kernel
theorem dX4_leaveOut_37 : decode cX4_leaveOut 37 = .ok (.iload_n 3, 1) := by decide +kernel
theorem dX4_leaveOut_38 : decode cX4_leaveOut 38 = .ok (.invokestatic 88, 3) := by decide +kernel
theorem dX4_leaveOut_41 : decode cX4_leaveOut 41 = .ok (.iload 4, 2) := by decide +kernel
theorem dX4_leaveOut_43 : decode cX4_leaveOut 43 = .ok (.invokestatic 101, 3) := by decide +kernel
theorem dX4_leaveOut_46 : decode cX4_leaveOut 46 = .ok (.invokestatic 61, 3) := by decide +kernel
theorem dX4_leaveOut_49 : decode cX4_leaveOut 49 = .ok (.iinc 2 1, 3) := by decide +kernel
theorem dX4_leaveOut_52 : decode cX4_leaveOut 52 = .ok (.goto (-50), 3) := by decide +kernel
theorem dX4_leaveOut_55 : decode cX4_leaveOut 55 = .ok (.return_, 1) := by decide +kernel
theorem dX4_firstBest_0 : decode cX4_firstBest 0 = .ok (.aload_n 0, 1) := by decide +kernel
theorem dX4_firstBest_1 : decode cX4_firstBest 1 = .ok (.iload_n 2, 1) := by decide +kernel
theorem dX4_firstBest_2 : decode cX4_firstBest 2 = .ok (.iload_n 3, 1) := by decide +kernel
theorem dX4_firstBest_3 : decode cX4_firstBest 3 = .ok (.iload 4, 2) := by decide +kernel
theorem dX4_firstBest_5 : decode cX4_firstBest 5 = .ok (.invokevirtual 49, 3) := by decide +kernel
theorem dX4_firstBest_8 : decode cX4_firstBest 8 = .ok (.istore 5, 2) := by decide +kernel
theorem dX4_firstBest_10 : decode cX4_firstBest 10 = .ok (.iconst (-1), 1) := by decide +kernel
theorem dX4_firstBest_11 : decode cX4_firstBest 11 = .ok (.istore 6, 2) := by decide +kernel
theorem dX4_firstBest_13 : decode cX4_firstBest 13 = .ok (.iload 6, 2) := by decide +kernel
theorem dX4_firstBest_15 : decode cX4_firstBest 15 = .ok (.aload_n 1, 1) := by decide +kernel
theorem dX4_firstBest_16 : decode cX4_firstBest 16 = .ok (.getfield 92, 3) := by decide +kernel
theorem dX4_firstBest_19 : decode cX4_firstBest 19 = .ok (.if_icmp .ge 84, 3) := by decide +kernel
theorem dX4_firstBest_22 : decode cX4_firstBest 22 = .ok (.iconst (-1), 1) := by decide +kernel
theorem dX4_firstBest_23 : decode cX4_firstBest 23 = .ok (.istore 7, 2) := by decide +kernel
theorem dX4_firstBest_25 : decode cX4_firstBest 25 = .ok (.iload 7, 2) := by decide +kernel
theorem dX4_firstBest_27 : decode cX4_firstBest 27 = .ok (.aload_n 1, 1) := by decide +kernel
theorem dX4_firstBest_28 : decode cX4_firstBest 28 = .ok (.getfield 92, 3) := by decide +kernel
theorem dX4_firstBest_31 : decode cX4_firstBest 31 = .ok (.if_icmp .ge 66, 3) := by decide +kernel
theorem dX4_firstBest_34 : decode cX4_firstBest 34 = .ok (.aload_n 0, 1) := by decide +kernel
theorem dX4_firstBest_35 : decode cX4_firstBest 35 = .ok (.iload_n 2, 1) := by decide +kernel
theorem dX4_firstBest_36 : decode cX4_firstBest 36 = .ok (.iconst 1, 1) := by decide +kernel
theorem dX4_firstBest_37 : decode cX4_firstBest 37 = .ok (.iadd, 1) := by decide +kernel
theorem dX4_firstBest_38 : decode cX4_firstBest 38 = .ok (.iload 6, 2) := by decide +kernel
theorem dX4_firstBest_40 : decode cX4_firstBest 40 = .ok (.iload 7, 2) := by decide +kernel
theorem dX4_firstBest_42 : decode cX4_firstBest 42 = .ok (.invokevirtual 49, 3) := by decide +kernel
theorem dX4_firstBest_45 : decode cX4_firstBest 45 = .ok (.aload_n 0, 1) := by decide +kernel
theorem dX4_firstBest_46 : decode cX4_firstBest 46 = .ok (.iload_n 3, 1) := by decide +kernel
theorem dX4_firstBest_47 : decode cX4_firstBest 47 = .ok (.iload 6, 2) := by decide +kernel
theorem dX4_firstBest_49 : decode cX4_firstBest 49 = .ok (.invokevirtual 106, 3) := by decide +kernel
theorem dX4_firstBest_52 : decode cX4_firstBest 52 = .ok (.iadd, 1) := by decide +kernel
theorem dX4_firstBest_53 : decode cX4_firstBest 53 = .ok (.aload_n 0, 1) := by decide +kernel
theorem dX4_firstBest_54 : decode cX4_firstBest 54 = .ok (.iload 4, 2) := by decide +kernel
theorem dX4_firstBest_56 : decode cX4_firstBest 56 = .ok (.iload 7, 2) := by decide +kernel
theorem dX4_firstBest_58 : decode cX4_firstBest 58 = .ok (.invokevirtual 106, 3) := by decide +kernel
theorem dX4_firstBest_61 : decode cX4_firstBest 61 = .ok (.iadd, 1) := by decide +kernel
theorem dX4_firstBest_62 : decode cX4_firstBest 62 = .ok (.istore 8, 2) := by decide +kernel
theorem dX4_firstBest_64 : decode cX4_firstBest 64 = .ok (.iload 8, 2) := by decide +kernel
theorem dX4_firstBest_66 : decode cX4_firstBest 66 = .ok (.iload 5, 2) := by decide +kernel
theorem dX4_firstBest_68 : decode cX4_firstBest 68 = .ok (.if_icmp .ne 23, 3) := by decide +kernel
theorem dX4_firstBest_71 : decode cX4_firstBest 71 = .ok (.aload_n 1, 1) := by decide +kernel
theorem dX4_firstBest_72 : decode cX4_firstBest 72 = .ok (.iload_n 2, 1) := by decide +kernel
theorem dX4_firstBest_73 : decode cX4_firstBest 73 = .ok (.iload 6, 2) := by decide +kernel
theorem dX4_firstBest_75 : decode cX4_firstBest 75 = .ok (.iload 7, 2) := by decide +kernel
