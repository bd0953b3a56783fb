theorem dX3_settleFaint_3 : decode cX3_settleFaint 3 = .ok (.getfield 21, 3) := by decide +kernel
theorem dX3_settleFaint_6 : decode cX3_settleFaint 6 = .ok (.iconst 2, 1) := by decide +kernel
theorem dX3_settleFaint_7 : decode cX3_settleFaint 7 = .ok (.invokevirtual 39, 3) := by decide +kernel
theorem dX3_settleFaint_10 : decode cX3_settleFaint 10 = .ok (.iand, 1) := by decide +kernel
theorem dX3_settleFaint_11 : decode cX3_settleFaint 11 = .ok (.invokevirtual 45, 3) := by decide +kernel
theorem dX3_settleFaint_14 : decode cX3_settleFaint 14 = .ok (.pop, 1) := by decide +kernel
theorem dX3_settleFaint_15 : decode cX3_settleFaint 15 = .ok (.return_, 1) := by decide +kernel
theorem dX3_seatAll_0 : decode cX3_seatAll 0 = .ok (.iload_n 1, 1) := by decide +kernel
theorem dX3_seatAll_1 : decode cX3_seatAll 1 = .ok (.istore_n 2, 1) := by decide +kernel
theorem dX3_seatAll_2 : decode cX3_seatAll 2 = .ok (.iconst (-1), 1) := by decide +kernel
theorem dX3_seatAll_3 : decode cX3_seatAll 3 = .ok (.istore_n 3, 1) := by decide +kernel
theorem dX3_seatAll_4 : decode cX3_seatAll 4 = .ok (.iload_n 3, 1) := by decide +kernel
theorem dX3_seatAll_5 : decode cX3_seatAll 5 = .ok (.aload_n 0, 1) := by decide +kernel
theorem dX3_seatAll_6 : decode cX3_seatAll 6 = .ok (.getfield 21, 3) := by decide +kernel
theorem dX3_seatAll_9 : decode cX3_seatAll 9 = .ok (.invokevirtual 48, 3) := by decide +kernel
theorem dX3_seatAll_12 : decode cX3_seatAll 12 = .ok (.if_icmp .gt 108, 3) := by decide +kernel
theorem dX3_seatAll_15 : decode cX3_seatAll 15 = .ok (.aload_n 0, 1) := by decide +kernel
theorem dX3_seatAll_16 : decode cX3_seatAll 16 = .ok (.getfield 35, 3) := by decide +kernel
theorem dX3_seatAll_19 : decode cX3_seatAll 19 = .ok (.ifCond .eq 101, 3) := by decide +kernel
theorem dX3_seatAll_22 : decode cX3_seatAll 22 = .ok (.iload_n 2, 1) := by decide +kernel
theorem dX3_seatAll_23 : decode cX3_seatAll 23 = .ok (.ifCond .eq 97, 3) := by decide +kernel
theorem dX3_seatAll_26 : decode cX3_seatAll 26 = .ok (.iconst 0, 1) := by decide +kernel
theorem dX3_seatAll_27 : decode cX3_seatAll 27 = .ok (.istore 4, 2) := by decide +kernel
theorem dX3_seatAll_29 : decode cX3_seatAll 29 = .ok (.iload 4, 2) := by decide +kernel
theorem dX3_seatAll_31 : decode cX3_seatAll 31 = .ok (.aload_n 0, 1) := by decide +kernel
theorem dX3_seatAll_32 : decode cX3_seatAll 32 = .ok (.getfield 21, 3) := by decide +kernel
theorem dX3_seatAll_35 : decode cX3_seatAll 35 = .ok (.getfield 52, 3) := by decide +kernel
theorem dX3_seatAll_38 : decode cX3_seatAll 38 = .ok (.if_icmp .ge 76, 3) := by decide +kernel
theorem dX3_seatAll_41 : decode cX3_seatAll 41 = .ok (.iload_n 2, 1) := by decide +kernel
theorem dX3_seatAll_42 : decode cX3_seatAll 42 = .ok (.iload 4, 2) := by decide +kernel
theorem dX3_seatAll_44 : decode cX3_seatAll 44 = .ok (.invokestatic 55, 3) := by decide +kernel
theorem dX3_seatAll_47 : decode cX3_seatAll 47 = .ok (.ifCond .eq 35, 3) := by decide +kernel
theorem dX3_seatAll_50 : decode cX3_seatAll 50 = .ok (.aload_n 0, 1) := by decide +kernel
theorem dX3_seatAll_51 : decode cX3_seatAll 51 = .ok (.getfield 21, 3) := by decide +kernel
theorem dX3_seatAll_54 : decode cX3_seatAll 54 = .ok (.aload_n 0, 1) := by decide +kernel
theorem dX3_seatAll_55 : decode cX3_seatAll 55 = .ok (.getfield 9, 3) := by decide +kernel
theorem dX3_seatAll_58 : decode cX3_seatAll 58 = .ok (.iload 4, 2) := by decide +kernel
theorem dX3_seatAll_60 : decode cX3_seatAll 60 = .ok (.iaload, 1) := by decide +kernel
theorem dX3_seatAll_61 : decode cX3_seatAll 61 = .ok (.iload_n 3, 1) := by decide +kernel
theorem dX3_seatAll_62 : decode cX3_seatAll 62 = .ok (.aload_n 0, 1) := by decide +kernel
theorem dX3_seatAll_63 : decode cX3_seatAll 63 = .ok (.getfield 21, 3) := by decide +kernel
theorem dX3_seatAll_66 : decode cX3_seatAll 66 = .ok (.iload 4, 2) := by decide +kernel
theorem dX3_seatAll_68 : decode cX3_seatAll 68 = .ok (.invokevirtual 59, 3) := by decide +kernel
theorem dX3_seatAll_71 : decode cX3_seatAll 71 = .ok (.iadd, 1) := by decide +kernel
theorem dX3_seatAll_72 : decode cX3_seatAll 72 = .ok (.aload_n 0, 1) := by decide +kernel
theorem dX3_seatAll_73 : decode cX3_seatAll 73 = .ok (.getfield 35, 3) := by decide +kernel
theorem dX3_seatAll_76 : decode cX3_seatAll 76 = .ok (.invokevirtual 62, 3) := by decide +kernel
theorem dX3_seatAll_79 : decode cX3_seatAll 79 = .ok (.goto 4, 3) := by decide +kernel
theorem dX3_seatAll_82 : decode cX3_seatAll 82 = .ok (.iconst (-1), 1) := by decide +kernel
theorem dX3_seatAll_83 : decode cX3_seatAll 83 = .ok (.istore 5, 2) := by decide +kernel
theorem dX3_seatAll_85 : decode cX3_seatAll 85 = .ok (.iload 5, 2) := by decide +kernel
theorem dX3_seatAll_87 : decode cX3_seatAll 87 = .ok (.iconst (-1), 1) := by decide +kernel
theorem dX3_seatAll_88 : decode cX3_seatAll 88 = .ok (.if_icmp .eq 20, 3) := by decide +kernel
theorem dX3_seatAll_91 : decode cX3_seatAll 91 = .ok (.aload_n 0, 1) := by decide +kernel
theorem dX3_seatAll_92 : decode cX3_seatAll 92 = .ok (.iload 4, 2) := by decide +kernel
theorem dX3_seatAll_94 : decode cX3_seatAll 94 = .ok (.iload 5, 2) := by decide +kernel
theorem dX3_seatAll_96 : decode cX3_seatAll 96 = .ok (.invokevirtual 66, 3) := by decide +kernel
theorem dX3_seatAll_99 : decode cX3_seatAll 99 = .ok (.iload_n 2, 1) := by decide +kernel
theorem dX3_seatAll_100 : decode cX3_seatAll 100 = .ok (.iconst 1, 1) := by decide +kernel
theorem dX3_seatAll_101 : decode cX3_seatAll 101 = .ok (.iload 4, 2) := by decide +kernel
theorem dX3_seatAll_103 : decode cX3_seatAll 103 = .ok (.ishl, 1) := by decide +kernel
theorem dX3_seatAll_104 : decode cX3_seatAll 104 = .ok (.iconst (-1), 1) := by decide +kernel
theorem dX3_seatAll_105 : decode cX3_seatAll 105 = .ok (.ixor, 1) := by decide +kernel
theorem dX3_seatAll_106 : decode cX3_seatAll 106 = .ok (.iand, 1) := by decide +kernel
theorem dX3_seatAll_107 : decode cX3_seatAll 107 = .ok (.istore_n 2, 1) := by decide +kernel
theorem dX3_seatAll_108 : decode cX3_seatAll 108 = .ok (.iinc 4 1, 3) := by decide +kernel
theorem dX3_seatAll_111 : decode cX3_seatAll 111 = .ok (.goto (-82), 3) := by decide +kernel
theorem dX3_seatAll_114 : decode cX3_seatAll 114 = .ok (.iinc 3 1, 3) := by decide +kernel
theorem dX3_seatAll_117 : decode cX3_seatAll 117 = .ok (.goto (-113), 3) := by decide +kernel
theorem dX3_seatAll_120 : decode cX3_seatAll 120 = .ok (.iload_n 2, 1) := by decide +kernel
theorem dX3_seatAll_121 : decode cX3_seatAll 121 = .ok (.ireturn, 1) := by decide +kernel
theorem dX3_seatOne_0 : decode cX3_seatOne 0 = .ok (.aload_n 0, 1) := by decide +kernel
theorem dX3_seatOne_1 : decode cX3_seatOne 1 = .ok (.getfield 15, 3) := by decide +kernel
theorem dX3_seatOne_4 : decode cX3_seatOne 4 = .ok (.iload_n 1, 1) := by decide +kernel
theorem dX3_seatOne_5 : decode cX3_seatOne 5 = .ok (.iload_n 2, 1) := by decide +kernel
theorem dX3_seatOne_6 : decode cX3_seatOne 6 = .ok (.iastore, 1) := by decide +kernel
theorem dX3_seatOne_7 : decode cX3_seatOne 7 = .ok (.aload_n 0, 1) := by decide +kernel
theorem dX3_seatOne_8 : decode cX3_seatOne 8 = .ok (.iload_n 1, 1) := by decide +kernel
theorem dX3_seatOne_9 : decode cX3_seatOne 9 = .ok (.iload_n 2, 1) := by decide +kernel
theorem dX3_seatOne_10 : decode cX3_seatOne 10 = .ok (.invokevirtual 70, 3) := by decide +kernel
theorem dX3_seatOne_13 : decode cX3_seatOne 13 = .ok (.aload_n 0, 1) := by decide +kernel
theorem dX3_seatOne_14 : decode cX3_seatOne 14 = .ok (.getfield 21, 3) := by decide +kernel
theorem dX3_seatOne_17 : decode cX3_seatOne 17 = .ok (.getfield 73, 3) := by decide +kernel
theorem dX3_seatOne_20 : decode cX3_seatOne 20 = .ok (.iload_n 1, 1) := by decide +kernel
theorem dX3_seatOne_21 : decode cX3_seatOne 21 = .ok (.iaload, 1) := by decide +kernel
theorem dX3_seatOne_22 : decode cX3_seatOne 22 = .ok (.iconst 3, 1) := by decide +kernel
theorem dX3_seatOne_23 : decode cX3_seatOne 23 = .ok (.if_icmp .eq 4, 3) := by decide +kernel
theorem dX3_seatOne_26 : decode cX3_seatOne 26 = .ok (.return_, 1) := by decide +kernel
theorem dX3_seatOne_27 : decode cX3_seatOne 27 = .ok (.iconst 1, 1) := by decide +kernel
theorem dX3_seatOne_28 : decode cX3_seatOne 28 = .ok (.istore_n 3, 1) := by decide +kernel
theorem dX3_seatOne_29 : decode cX3_seatOne 29 = .ok (.iload_n 3, 1) := by decide +kernel
theorem dX3_seatOne_30 : decode cX3_seatOne 30 = .ok (.aload_n 0, 1) := by decide +kernel
theorem dX3_seatOne_31 : decode cX3_seatOne 31 = .ok (.getfield 21, 3) := by decide +kernel
theorem dX3_seatOne_34 : decode cX3_seatOne 34 = .ok (.invokevirtual 48, 3) := by decide +kernel
theorem dX3_seatOne_37 : decode cX3_seatOne 37 = .ok (.if_icmp .gt 43, 3) := by decide +kernel
theorem dX3_seatOne_40 : decode cX3_seatOne 40 = .ok (.aload_n 0, 1) := by decide +kernel
theorem dX3_seatOne_41 : decode cX3_seatOne 41 = .ok (.getfield 21, 3) := by decide +kernel
theorem dX3_seatOne_44 : decode cX3_seatOne 44 = .ok (.iload_n 2, 1) := by decide +kernel
theorem dX3_seatOne_45 : decode cX3_seatOne 45 = .ok (.iload_n 3, 1) := by decide +kernel
theorem dX3_seatOne_46 : decode cX3_seatOne 46 = .ok (.aload_n 0, 1) := by decide +kernel
theorem dX3_seatOne_47 : decode cX3_seatOne 47 = .ok (.getfield 35, 3) := by decide +kernel
theorem dX3_seatOne_50 : decode cX3_seatOne 50 = .ok (.invokevirtual 62, 3) := by decide +kernel
theorem dX3_seatOne_53 : decode cX3_seatOne 53 = .ok (.istore 4, 2) := by decide +kernel
theorem dX3_seatOne_55 : decode cX3_seatOne 55 = .ok (.iload 4, 2) := by decide +kernel
theorem dX3_seatOne_57 : decode cX3_seatOne 57 = .ok (.iconst (-1), 1) := by decide +kernel
theorem dX3_seatOne_58 : decode cX3_seatOne 58 = .ok (.if_icmp .eq 16, 3) := by decide +kernel
theorem dX3_seatOne_61 : decode cX3_seatOne 61 = .ok (.aload_n 0, 1) := by decide +kernel
theorem dX3_seatOne_62 : decode cX3_seatOne 62 = .ok (.iload_n 1, 1) := by decide +kernel
theorem dX3_seatOne_63 : decode cX3_seatOne 63 = .ok (.iload 4, 2) := by decide +kernel
theorem dX3_seatOne_65 : decode cX3_seatOne 65 = .ok (.invokevirtual 70, 3) := by decide +kernel
theorem dX3_seatOne_68 : decode cX3_seatOne 68 = .ok (.aload_n 0, 1) := by decide +kernel
theorem dX3_seatOne_69 : decode cX3_seatOne 69 = .ok (.iconst 1, 1) := by decide +kernel
theorem dX3_seatOne_70 : decode cX3_seatOne 70 = .ok (.putfield 31, 3) := by decide +kernel
theorem dX3_seatOne_73 : decode cX3_seatOne 73 = .ok (.return_, 1) := by decide +kernel
theorem dX3_seatOne_74 : decode cX3_seatOne 74 = .ok (.iinc 3 1, 3) := by decide +kernel
theorem dX3_seatOne_77 : decode cX3_seatOne 77 = .ok (.goto (-48), 3) := by decide +kernel
theorem dX3_seatOne_80 : decode cX3_seatOne 80 = .ok (.return_, 1) := by decide +kernel
theorem dX3_take_0 : decode cX3_take 0 = .ok (.aload_n 0, 1) := by decide +kernel
theorem dX3_take_1 : decode cX3_take 1 = .ok (.getfield 18, 3) := by decide +kernel
theorem dX3_take_4 : decode cX3_take 4 = .ok (.iload_n 2, 1) := by decide +kernel
theorem dX3_take_5 : decode cX3_take 5 = .ok (.iload_n 1, 1) := by decide +kernel
theorem dX3_take_6 : decode cX3_take 6 = .ok (.iastore, 1) := by decide +kernel
theorem dX3_take_7 : decode cX3_take 7 = .ok (.aload_n 0, 1) := by decide +kernel
theorem dX3_take_8 : decode cX3_take 8 = .ok (.dup, 1) := by decide +kernel
theorem dX3_take_9 : decode cX3_take 9 = .ok (.getfield 35, 3) := by decide +kernel
theorem dX3_take_12 : decode cX3_take 12 = .ok (.iconst 1, 1) := by decide +kernel
theorem dX3_take_13 : decode cX3_take 13 = .ok (.iload_n 2, 1) := by decide +kernel
theorem dX3_take_14 : decode cX3_take 14 = .ok (.ishl, 1) := by decide +kernel
theorem dX3_take_15 : decode cX3_take 15 = .ok (.iconst (-1), 1) := by decide +kernel
theorem dX3_take_16 : decode cX3_take 16 = .ok (.ixor, 1) := by decide +kernel
theorem dX3_take_17 : decode cX3_take 17 = .ok (.iand, 1) := by decide +kernel
theorem dX3_take_18 : decode cX3_take 18 = .ok (.putfield 35, 3) := by decide +kernel
theorem dX3_take_21 : decode cX3_take 21 = .ok (.return_, 1) := by decide +kernel
theorem dX4_init_0 : decode cX4_init 0 = .ok (.aload_n 0, 1) := by decide +kernel
theorem dX4_init_1 : decode cX4_init 1 = .ok (.invokespecial 3, 3) := by decide +kernel
theorem dX4_init_4 : decode cX4_init 4 = .ok (.aload_n 0, 1) := by decide +kernel
theorem dX4_init_5 : decode cX4_init 5 = .ok (.bipush 6, 2) := by decide +kernel
theorem dX4_init_7 : decode cX4_init 7 = .ok (.newarray .int, 2) := by decide +kernel
theorem dX4_init_9 : decode cX4_init 9 = .ok (.putfield 9, 3) := by decide +kernel
theorem dX4_init_12 : decode cX4_init 12 = .ok (.aload_n 0, 1) := by decide +kernel
theorem dX4_init_13 : decode cX4_init 13 = .ok (.bipush 6, 2) := by decide +kernel
theorem dX4_init_15 : decode cX4_init 15 = .ok (.newarray .int, 2) := by decide +kernel
theorem dX4_init_17 : decode cX4_init 17 = .ok (.putfield 15, 3) := by decide +kernel
theorem dX4_init_20 : decode cX4_init 20 = .ok (.return_, 1) := by decide +kernel
theorem dX4_add_0 : decode cX4_add 0 = .ok (.aload_n 0, 1) := by decide +kernel
theorem dX4_add_1 : decode cX4_add 1 = .ok (.getfield 18, 3) := by decide +kernel
theorem dX4_add_4 : decode cX4_add 4 = .ok (.bipush 6, 2) := by decide +kernel
theorem dX4_add_6 : decode cX4_add 6 = .ok (.if_icmp .ge 33, 3) := by decide +kernel
theorem dX4_add_9 : decode cX4_add 9 = .ok (.aload_n 0, 1) := by decide +kernel
theorem dX4_add_10 : decode cX4_add 10 = .ok (.getfield 9, 3) := by decide +kernel
theorem dX4_add_13 : decode cX4_add 13 = .ok (.aload_n 0, 1) := by decide +kernel
theorem dX4_add_14 : decode cX4_add 14 = .ok (.getfield 18, 3) := by decide +kernel
theorem dX4_add_17 : decode cX4_add 17 = .ok (.iload_n 1, 1) := by decide +kernel
theorem dX4_add_18 : decode cX4_add 18 = .ok (.iastore, 1) := by decide +kernel
theorem dX4_add_19 : decode cX4_add 19 = .ok (.aload_n 0, 1) := by decide +kernel
theorem dX4_add_20 : decode cX4_add 20 = .ok (.getfield 15, 3) := by decide +kernel
theorem dX4_add_23 : decode cX4_add 23 = .ok (.aload_n 0, 1) := by decide +kernel
theorem dX4_add_24 : decode cX4_add 24 = .ok (.getfield 18, 3) := by decide +kernel
theorem dX4_add_27 : decode cX4_add 27 = .ok (.iload_n 2, 1) := by decide +kernel
theorem dX4_add_28 : decode cX4_add 28 = .ok (.iastore, 1) := by decide +kernel
theorem dX4_add_29 : decode cX4_add 29 = .ok (.aload_n 0, 1) := by decide +kernel
theorem dX4_add_30 : decode cX4_add 30 = .ok (.dup, 1) := by decide +kernel
theorem dX4_add_31 : decode cX4_add 31 = .ok (.getfield 18, 3) := by decide +kernel
theorem dX4_add_34 : decode cX4_add 34 = .ok (.iconst 1, 1) := by decide +kernel
theorem dX4_add_35 : decode cX4_add 35 = .ok (.iadd, 1) := by decide +kernel
theorem dX4_add_36 : decode cX4_add 36 = .ok (.putfield 18, 3) := by decide +kernel
theorem dX4_add_39 : decode cX4_add 39 = .ok (.return_, 1) := by decide +kernel
theorem dX4_fit_0 : decode cX4_fit 0 = .ok (.iconst 0, 1) := by decide +kernel
theorem dX4_fit_1 : decode cX4_fit 1 = .ok (.istore_n 2, 1) := by decide +kernel
theorem dX4_fit_2 : decode cX4_fit 2 = .ok (.iload_n 2, 1) := by decide +kernel
theorem dX4_fit_3 : decode cX4_fit 3 = .ok (.aload_n 0, 1) := by decide +kernel
theorem dX4_fit_4 : decode cX4_fit 4 = .ok (.getfield 18, 3) := by decide +kernel
theorem dX4_fit_7 : decode cX4_fit 7 = .ok (.if_icmp .ge 30, 3) := by decide +kernel
theorem dX4_fit_10 : decode cX4_fit 10 = .ok (.iload_n 1, 1) := by decide +kernel
theorem dX4_fit_11 : decode cX4_fit 11 = .ok (.aload_n 0, 1) := by decide +kernel
theorem dX4_fit_12 : decode cX4_fit 12 = .ok (.getfield 9, 3) := by decide +kernel
theorem dX4_fit_15 : decode cX4_fit 15 = .ok (.iload_n 2, 1) := by decide +kernel
theorem dX4_fit_16 : decode cX4_fit 16 = .ok (.iaload, 1) := by decide +kernel
theorem dX4_fit_17 : decode cX4_fit 17 = .ok (.ishr, 1) := by decide +kernel
theorem dX4_fit_18 : decode cX4_fit 18 = .ok (.iconst 1, 1) := by decide +kernel
theorem dX4_fit_19 : decode cX4_fit 19 = .ok (.iand, 1) := by decide +kernel
theorem dX4_fit_20 : decode cX4_fit 20 = .ok (.aload_n 0, 1) := by decide +kernel
theorem dX4_fit_21 : decode cX4_fit 21 = .ok (.getfield 15, 3) := by decide +kernel
theorem dX4_fit_24 : decode cX4_fit 24 = .ok (.iload_n 2, 1) := by decide +kernel
theorem dX4_fit_25 : decode cX4_fit 25 = .ok (.iaload, 1) := by decide +kernel
theorem dX4_fit_26 : decode cX4_fit 26 = .ok (.if_icmp .eq 5, 3) := by decide +kernel
theorem dX4_fit_29 : decode cX4_fit 29 = .ok (.iconst 0, 1) := by decide +kernel
theorem dX4_fit_30 : decode cX4_fit 30 = .ok (.ireturn, 1) := by decide +kernel
theorem dX4_fit_31 : decode cX4_fit 31 = .ok (.iinc 2 1, 3) := by decide +kernel
theorem dX4_fit_34 : decode cX4_fit 34 = .ok (.goto (-32), 3) := by decide +kernel
theorem dX4_fit_37 : decode cX4_fit 37 = .ok (.iconst 1, 1) := by decide +kernel
theorem dX4_fit_38 : decode cX4_fit 38 = .ok (.ireturn, 1) := by decide +kernel
theorem dX5_init_0 : decode cX5_init 0 = .ok (.aload_n 0, 1) := by decide +kernel
theorem dX5_init_1 : decode cX5_init 1 = .ok (.invokespecial 3, 3) := by decide +kernel
theorem dX5_init_4 : decode cX5_init 4 = .ok (.aload_n 0, 1) := by decide +kernel
theorem dX5_init_5 : decode cX5_init 5 = .ok (.sipush 200, 3) := by decide +kernel
theorem dX5_init_8 : decode cX5_init 8 = .ok (.newarray .int, 2) := by decide +kernel
theorem dX5_init_10 : decode cX5_init 10 = .ok (.putfield 9, 3) := by decide +kernel
theorem dX5_init_13 : decode cX5_init 13 = .ok (.aload_n 0, 1) := by decide +kernel
theorem dX5_init_14 : decode cX5_init 14 = .ok (.new 15, 3) := by decide +kernel
theorem dX5_init_17 : decode cX5_init 17 = .ok (.dup, 1) := by decide +kernel
theorem dX5_init_18 : decode cX5_init 18 = .ok (.invokespecial 17, 3) := by decide +kernel
theorem dX5_init_21 : decode cX5_init 21 = .ok (.putfield 18, 3) := by decide +kernel
theorem dX5_init_24 : decode cX5_init 24 = .ok (.aload_n 0, 1) := by decide +kernel
theorem dX5_init_25 : decode cX5_init 25 = .ok (.iconst 4, 1) := by decide +kernel
theorem dX5_init_26 : decode cX5_init 26 = .ok (.newarray .int, 2) := by decide +kernel
theorem dX5_init_28 : decode cX5_init 28 = .ok (.putfield 22, 3) := by decide +kernel
theorem dX5_init_31 : decode cX5_init 31 = .ok (.return_, 1) := by decide +kernel
theorem dX5_append_0 : decode cX5_append 0 = .ok (.aload_n 0, 1) := by decide +kernel
theorem dX5_append_1 : decode cX5_append 1 = .ok (.getfield 25, 3) := by decide +kernel
theorem dX5_append_4 : decode cX5_append 4 = .ok (.sipush 200, 3) := by decide +kernel
theorem dX5_append_7 : decode cX5_append 7 = .ok (.if_icmp .ge 23, 3) := by decide +kernel
theorem dX5_append_10 : decode cX5_append 10 = .ok (.aload_n 0, 1) := by decide +kernel
theorem dX5_append_11 : decode cX5_append 11 = .ok (.getfield 9, 3) := by decide +kernel
theorem dX5_append_14 : decode cX5_append 14 = .ok (.aload_n 0, 1) := by decide +kernel
theorem dX5_append_15 : decode cX5_append 15 = .ok (.getfield 25, 3) := by decide +kernel
theorem dX5_append_18 : decode cX5_append 18 = .ok (.iload_n 1, 1) := by decide +kernel
theorem dX5_append_19 : decode cX5_append 19 = .ok (.iastore, 1) := by decide +kernel
theorem dX5_append_20 : decode cX5_append 20 = .ok (.aload_n 0, 1) := by decide +kernel
theorem dX5_append_21 : decode cX5_append 21 = .ok (.dup, 1) := by decide +kernel
theorem dX5_append_22 : decode cX5_append 22 = .ok (.getfield 25, 3) := by decide +kernel
theorem dX5_append_25 : decode cX5_append 25 = .ok (.iconst 1, 1) := by decide +kernel
theorem dX5_append_26 : decode cX5_append 26 = .ok (.iadd, 1) := by decide +kernel
theorem dX5_append_27 : decode cX5_append 27 = .ok (.putfield 25, 3) := by decide +kernel
theorem dX5_append_30 : decode cX5_append 30 = .ok (.return_, 1) := by decide +kernel
theorem dX5_read_0 : decode cX5_read 0 = .ok (.aload_n 0, 1) := by decide +kernel
theorem dX5_read_1 : decode cX5_read 1 = .ok (.getfield 18, 3) := by decide +kernel
theorem dX5_read_4 : decode cX5_read 4 = .ok (.aload_n 1, 1) := by decide +kernel
theorem dX5_read_5 : decode cX5_read 5 = .ok (.invokevirtual 29, 3) := by decide +kernel
theorem dX5_read_8 : decode cX5_read 8 = .ok (.aload_n 0, 1) := by decide +kernel
theorem dX5_read_9 : decode cX5_read 9 = .ok (.iconst 0, 1) := by decide +kernel
theorem dX5_read_10 : decode cX5_read 10 = .ok (.putfield 33, 3) := by decide +kernel
theorem dX5_read_13 : decode cX5_read 13 = .ok (.aload_n 0, 1) := by decide +kernel
theorem dX5_read_14 : decode cX5_read 14 = .ok (.iconst 1, 1) := by decide +kernel
theorem dX5_read_15 : decode cX5_read 15 = .ok (.putfield 36, 3) := by decide +kernel
theorem dX5_read_18 : decode cX5_read 18 = .ok (.aload_n 0, 1) := by decide +kernel
theorem dX5_read_19 : decode cX5_read 19 = .ok (.getfield 36, 3) := by decide +kernel
theorem dX5_read_22 : decode cX5_read 22 = .ok (.bipush 12, 2) := by decide +kernel
theorem dX5_read_24 : decode cX5_read 24 = .ok (.if_icmp .gt 64, 3) := by decide +kernel
theorem dX5_read_27 : decode cX5_read 27 = .ok (.aload_n 0, 1) := by decide +kernel
theorem dX5_read_28 : decode cX5_read 28 = .ok (.invokevirtual 39, 3) := by decide +kernel
theorem dX5_read_31 : decode cX5_read 31 = .ok (.ifCond .ne 8, 3) := by decide +kernel
theorem dX5_read_34 : decode cX5_read 34 = .ok (.aload_n 0, 1) := by decide +kernel
theorem dX5_read_35 : decode cX5_read 35 = .ok (.getfield 43, 3) := by decide +kernel
theorem dX5_read_38 : decode cX5_read 38 = .ok (.ireturn, 1) := by decide +kernel
theorem dX5_read_39 : decode cX5_read 39 = .ok (.aload_n 0, 1) := by decide +kernel
theorem dX5_read_40 : decode cX5_read 40 = .ok (.invokevirtual 46, 3) := by decide +kernel
theorem dX5_read_43 : decode cX5_read 43 = .ok (.aload_n 0, 1) := by decide +kernel
theorem dX5_read_44 : decode cX5_read 44 = .ok (.getfield 43, 3) := by decide +kernel
theorem dX5_read_47 : decode cX5_read 47 = .ok (.aload_n 0, 1) := by decide +kernel
theorem dX5_read_48 : decode cX5_read 48 = .ok (.getfield 25, 3) := by decide +kernel
theorem dX5_read_51 : decode cX5_read 51 = .ok (.if_icmp .lt 5, 3) := by decide +kernel
theorem dX5_read_54 : decode cX5_read 54 = .ok (.iconst (-1), 1) := by decide +kernel
theorem dX5_read_55 : decode cX5_read 55 = .ok (.ireturn, 1) := by decide +kernel
theorem dX5_read_56 : decode cX5_read 56 = .ok (.aload_n 0, 1) := by decide +kernel
theorem dX5_read_57 : decode cX5_read 57 = .ok (.getfield 9, 3) := by decide +kernel
theorem dX5_read_60 : decode cX5_read 60 = .ok (.aload_n 0, 1) := by decide +kernel
theorem dX5_read_61 : decode cX5_read 61 = .ok (.getfield 43, 3) := by decide +kernel
theorem dX5_read_64 : decode cX5_read 64 = .ok (.iaload, 1) := by decide +kernel
theorem dX5_read_65 : decode cX5_read 65 = .ok (.bipush 59, 2) := by decide +kernel
theorem dX5_read_67 : decode cX5_read 67 = .ok (.if_icmp .eq 8, 3) := by decide +kernel
theorem dX5_read_70 : decode cX5_read 70 = .ok (.aload_n 0, 1) := by decide +kernel
theorem dX5_read_71 : decode cX5_read 71 = .ok (.getfield 43, 3) := by decide +kernel
theorem dX5_read_74 : decode cX5_read 74 = .ok (.ireturn, 1) := by decide +kernel
theorem dX5_read_75 : decode cX5_read 75 = .ok (.aload_n 0, 1) := by decide +kernel
theorem dX5_read_76 : decode cX5_read 76 = .ok (.dup, 1) := by decide +kernel
theorem dX5_read_77 : decode cX5_read 77 = .ok (.getfield 36, 3) := by decide +kernel
theorem dX5_read_80 : decode cX5_read 80 = .ok (.iconst 1, 1) := by decide +kernel
theorem dX5_read_81 : decode cX5_read 81 = .ok (.iadd, 1) := by decide +kernel
theorem dX5_read_82 : decode cX5_read 82 = .ok (.putfield 36, 3) := by decide +kernel
theorem dX5_read_85 : decode cX5_read 85 = .ok (.goto (-67), 3) := by decide +kernel
theorem dX5_read_88 : decode cX5_read 88 = .ok (.aload_n 0, 1) := by decide +kernel
theorem dX5_read_89 : decode cX5_read 89 = .ok (.getfield 43, 3) := by decide +kernel
theorem dX5_read_92 : decode cX5_read 92 = .ok (.ireturn, 1) := by decide +kernel
theorem dX5_nextToken_0 : decode cX5_nextToken 0 = .ok (.aload_n 0, 1) := by decide +kernel
theorem dX5_nextToken_1 : decode cX5_nextToken 1 = .ok (.aload_n 0, 1) := by decide +kernel
theorem dX5_nextToken_2 : decode cX5_nextToken 2 = .ok (.getfield 33, 3) := by decide +kernel
theorem dX5_nextToken_5 : decode cX5_nextToken 5 = .ok (.putfield 43, 3) := by decide +kernel
theorem dX5_nextToken_8 : decode cX5_nextToken 8 = .ok (.aload_n 0, 1) := by decide +kernel
theorem dX5_nextToken_9 : decode cX5_nextToken 9 = .ok (.getfield 43, 3) := by decide +kernel
theorem dX5_nextToken_12 : decode cX5_nextToken 12 = .ok (.aload_n 0, 1) := by decide +kernel
theorem dX5_nextToken_13 : decode cX5_nextToken 13 = .ok (.getfield 25, 3) := by decide +kernel
theorem dX5_nextToken_16 : decode cX5_nextToken 16 = .ok (.if_icmp .ge 30, 3) := by decide +kernel
theorem dX5_nextToken_19 : decode cX5_nextToken 19 = .ok (.aload_n 0, 1) := by decide +kernel
theorem dX5_nextToken_20 : decode cX5_nextToken 20 = .ok (.getfield 9, 3) := by decide +kernel
theorem dX5_nextToken_23 : decode cX5_nextToken 23 = .ok (.aload_n 0, 1) := by decide +kernel
theorem dX5_nextToken_24 : decode cX5_nextToken 24 = .ok (.getfield 43, 3) := by decide +kernel
theorem dX5_nextToken_27 : decode cX5_nextToken 27 = .ok (.iaload, 1) := by decide +kernel
theorem dX5_nextToken_28 : decode cX5_nextToken 28 = .ok (.bipush 32, 2) := by decide +kernel
theorem dX5_nextToken_30 : decode cX5_nextToken 30 = .ok (.if_icmp .ne 16, 3) := by decide +kernel
theorem dX5_nextToken_33 : decode cX5_nextToken 33 = .ok (.aload_n 0, 1) := by decide +kernel
theorem dX5_nextToken_34 : decode cX5_nextToken 34 = .ok (.dup, 1) := by decide +kernel
theorem dX5_nextToken_35 : decode cX5_nextToken 35 = .ok (.getfield 43, 3) := by decide +kernel
theorem dX5_nextToken_38 : decode cX5_nextToken 38 = .ok (.iconst 1, 1) := by decide +kernel
theorem dX5_nextToken_39 : decode cX5_nextToken 39 = .ok (.iadd, 1) := by decide +kernel
theorem dX5_nextToken_40 : decode cX5_nextToken 40 = .ok (.putfield 43, 3) := by decide +kernel
theorem dX5_nextToken_43 : decode cX5_nextToken 43 = .ok (.goto (-35), 3) := by decide +kernel
theorem dX5_nextToken_46 : decode cX5_nextToken 46 = .ok (.aload_n 0, 1) := by decide +kernel
theorem dX5_nextToken_47 : decode cX5_nextToken 47 = .ok (.aload_n 0, 1) := by decide +kernel
theorem dX5_nextToken_48 : decode cX5_nextToken 48 = .ok (.getfield 43, 3) := by decide +kernel
theorem dX5_nextToken_51 : decode cX5_nextToken 51 = .ok (.putfield 33, 3) := by decide +kernel
theorem dX5_nextToken_54 : decode cX5_nextToken 54 = .ok (.aload_n 0, 1) := by decide +kernel
theorem dX5_nextToken_55 : decode cX5_nextToken 55 = .ok (.getfield 33, 3) := by decide +kernel
theorem dX5_nextToken_58 : decode cX5_nextToken 58 = .ok (.aload_n 0, 1) := by decide +kernel
theorem dX5_nextToken_59 : decode cX5_nextToken 59 = .ok (.getfield 25, 3) := by decide +kernel
theorem dX5_nextToken_62 : decode cX5_nextToken 62 = .ok (.if_icmp .ge 31, 3) := by decide +kernel
theorem dX5_nextToken_65 : decode cX5_nextToken 65 = .ok (.aload_n 0, 1) := by decide +kernel
theorem dX5_nextToken_66 : decode cX5_nextToken 66 = .ok (.getfield 9, 3) := by decide +kernel
theorem dX5_nextToken_69 : decode cX5_nextToken 69 = .ok (.aload_n 0, 1) := by decide +kernel
theorem dX5_nextToken_70 : decode cX5_nextToken 70 = .ok (.getfield 33, 3) := by decide +kernel
theorem dX5_nextToken_73 : decode cX5_nextToken 73 = .ok (.iaload, 1) := by decide +kernel
theorem dX5_nextToken_74 : decode cX5_nextToken 74 = .ok (.invokestatic 49, 3) := by decide +kernel
theorem dX5_nextToken_77 : decode cX5_nextToken 77 = .ok (.ifCond .eq 16, 3) := by decide +kernel
theorem dX5_nextToken_80 : decode cX5_nextToken 80 = .ok (.aload_n 0, 1) := by decide +kernel
theorem dX5_nextToken_81 : decode cX5_nextToken 81 = .ok (.dup, 1) := by decide +kernel
theorem dX5_nextToken_82 : decode cX5_nextToken 82 = .ok (.getfield 33, 3) := by decide +kernel
theorem dX5_nextToken_85 : decode cX5_nextToken 85 = .ok (.iconst 1, 1) := by decide +kernel
theorem dX5_nextToken_86 : decode cX5_nextToken 86 = .ok (.iadd, 1) := by decide +kernel
theorem dX5_nextToken_87 : decode cX5_nextToken 87 = .ok (.putfield 33, 3) := by decide +kernel
theorem dX5_nextToken_90 : decode cX5_nextToken 90 = .ok (.goto (-36), 3) := by decide +kernel
theorem dX5_nextToken_93 : decode cX5_nextToken 93 = .ok (.aload_n 0, 1) := by decide +kernel
theorem dX5_nextToken_94 : decode cX5_nextToken 94 = .ok (.getfield 33, 3) := by decide +kernel
theorem dX5_nextToken_97 : decode cX5_nextToken 97 = .ok (.aload_n 0, 1) := by decide +kernel
theorem dX5_nextToken_98 : decode cX5_nextToken 98 = .ok (.getfield 43, 3) := by decide +kernel
theorem dX5_nextToken_101 : decode cX5_nextToken 101 = .ok (.if_icmp .le 4, 3) := by decide +kernel
theorem dX5_nextToken_104 : decode cX5_nextToken 104 = .ok (.return_, 1) := by decide +kernel
theorem dX5_nextToken_105 : decode cX5_nextToken 105 = .ok (.aload_n 0, 1) := by decide +kernel
theorem dX5_nextToken_106 : decode cX5_nextToken 106 = .ok (.getfield 33, 3) := by decide +kernel
theorem dX5_nextToken_109 : decode cX5_nextToken 109 = .ok (.aload_n 0, 1) := by decide +kernel
theorem dX5_nextToken_110 : decode cX5_nextToken 110 = .ok (.getfield 25, 3) := by decide +kernel
theorem dX5_nextToken_113 : decode cX5_nextToken 113 = .ok (.if_icmp .ge 31, 3) := by decide +kernel
theorem dX5_nextToken_116 : decode cX5_nextToken 116 = .ok (.aload_n 0, 1) := by decide +kernel
theorem dX5_nextToken_117 : decode cX5_nextToken 117 = .ok (.getfield 9, 3) := by decide +kernel
theorem dX5_nextToken_120 : decode cX5_nextToken 120 = .ok (.aload_n 0, 1) := by decide +kernel
theorem dX5_nextToken_121 : decode cX5_nextToken 121 = .ok (.getfield 33, 3) := by decide +kernel
theorem dX5_nextToken_124 : decode cX5_nextToken 124 = .ok (.iaload, 1) := by decide +kernel
theorem dX5_nextToken_125 : decode cX5_nextToken 125 = .ok (.invokestatic 53, 3) := by decide +kernel
theorem dX5_nextToken_128 : decode cX5_nextToken 128 = .ok (.ifCond .eq 16, 3) := by decide +kernel
theorem dX5_nextToken_131 : decode cX5_nextToken 131 = .ok (.aload_n 0, 1) := by decide +kernel
theorem dX5_nextToken_132 : decode cX5_nextToken 132 = .ok (.dup, 1) := by decide +kernel
theorem dX5_nextToken_133 : decode cX5_nextToken 133 = .ok (.getfield 33, 3) := by decide +kernel
theorem dX5_nextToken_136 : decode cX5_nextToken 136 = .ok (.iconst 1, 1) := by decide +kernel
theorem dX5_nextToken_137 : decode cX5_nextToken 137 = .ok (.iadd, 1) := by decide +kernel
theorem dX5_nextToken_138 : decode cX5_nextToken 138 = .ok (.putfield 33, 3) := by decide +kernel
theorem dX5_nextToken_141 : decode cX5_nextToken 141 = .ok (.goto (-36), 3) := by decide +kernel
theorem dX5_nextToken_144 : decode cX5_nextToken 144 = .ok (.aload_n 0, 1) := by decide +kernel
theorem dX5_nextToken_145 : decode cX5_nextToken 145 = .ok (.getfield 33, 3) := by decide +kernel
theorem dX5_nextToken_148 : decode cX5_nextToken 148 = .ok (.aload_n 0, 1) := by decide +kernel
theorem dX5_nextToken_149 : decode cX5_nextToken 149 = .ok (.getfield 43, 3) := by decide +kernel
theorem dX5_nextToken_152 : decode cX5_nextToken 152 = .ok (.if_icmp .ne 24, 3) := by decide +kernel
theorem dX5_nextToken_155 : decode cX5_nextToken 155 = .ok (.aload_n 0, 1) := by decide +kernel
theorem dX5_nextToken_156 : decode cX5_nextToken 156 = .ok (.getfield 33, 3) := by decide +kernel
theorem dX5_nextToken_159 : decode cX5_nextToken 159 = .ok (.aload_n 0, 1) := by decide +kernel
theorem dX5_nextToken_160 : decode cX5_nextToken 160 = .ok (.getfield 25, 3) := by decide +kernel
theorem dX5_nextToken_163 : decode cX5_nextToken 163 = .ok (.if_icmp .ge 13, 3) := by decide +kernel
theorem dX5_nextToken_166 : decode cX5_nextToken 166 = .ok (.aload_n 0, 1) := by decide +kernel
theorem dX5_nextToken_167 : decode cX5_nextToken 167 = .ok (.dup, 1) := by decide +kernel
theorem dX5_nextToken_168 : decode cX5_nextToken 168 = .ok (.getfield 33, 3) := by decide +kernel
theorem dX5_nextToken_171 : decode cX5_nextToken 171 = .ok (.iconst 1, 1) := by decide +kernel
theorem dX5_nextToken_172 : decode cX5_nextToken 172 = .ok (.iadd, 1) := by decide +kernel
theorem dX5_nextToken_173 : decode cX5_nextToken 173 = .ok (.putfield 33, 3) := by decide +kernel
theorem dX5_nextToken_176 : decode cX5_nextToken 176 = .ok (.return_, 1) := by decide +kernel
theorem dX5_isLetter_0 : decode cX5_isLetter 0 = .ok (.iload_n 0, 1) := by decide +kernel
theorem dX5_isLetter_1 : decode cX5_isLetter 1 = .ok (.bipush 97, 2) := by decide +kernel
theorem dX5_isLetter_3 : decode cX5_isLetter 3 = .ok (.if_icmp .lt 13, 3) := by decide +kernel
theorem dX5_isLetter_6 : decode cX5_isLetter 6 = .ok (.iload_n 0, 1) := by decide +kernel
theorem dX5_isLetter_7 : decode cX5_isLetter 7 = .ok (.bipush 122, 2) := by decide +kernel
theorem dX5_isLetter_9 : decode cX5_isLetter 9 = .ok (.if_icmp .gt 7, 3) := by decide +kernel
theorem dX5_isLetter_12 : decode cX5_isLetter 12 = .ok (.iconst 1, 1) := by decide +kernel
theorem dX5_isLetter_13 : decode cX5_isLetter 13 = .ok (.goto 4, 3) := by decide +kernel
theorem dX5_isLetter_16 : decode cX5_isLetter 16 = .ok (.iconst 0, 1) := by decide +kernel
theorem dX5_isLetter_17 : decode cX5_isLetter 17 = .ok (.ireturn, 1) := by decide +kernel
theorem dX5_isDigit_0 : decode cX5_isDigit 0 = .ok (.iload_n 0, 1) := by decide +kernel
theorem dX5_isDigit_1 : decode cX5_isDigit 1 = .ok (.bipush 48, 2) := by decide +kernel
theorem dX5_isDigit_3 : decode cX5_isDigit 3 = .ok (.if_icmp .lt 13, 3) := by decide +kernel
theorem dX5_isDigit_6 : decode cX5_isDigit 6 = .ok (.iload_n 0, 1) := by decide +kernel
theorem dX5_isDigit_7 : decode cX5_isDigit 7 = .ok (.bipush 57, 2) := by decide +kernel
theorem dX5_isDigit_9 : decode cX5_isDigit 9 = .ok (.if_icmp .gt 7, 3) := by decide +kernel
theorem dX5_isDigit_12 : decode cX5_isDigit 12 = .ok (.iconst 1, 1) := by decide +kernel
theorem dX5_isDigit_13 : decode cX5_isDigit 13 = .ok (.goto 4, 3) := by decide +kernel
theorem dX5_isDigit_16 : decode cX5_isDigit 16 = .ok (.iconst 0, 1) := by decide +kernel
theorem dX5_isDigit_17 : decode cX5_isDigit 17 = .ok (.ireturn, 1) := by decide +kernel
theorem dX5_isWord_0 : decode cX5_isWord 0 = .ok (.aload_n 1, 1) := by decide +kernel
theorem dX5_isWord_1 : decode cX5_isWord 1 = .ok (.invokevirtual 56, 3) := by decide +kernel
theorem dX5_isWord_4 : decode cX5_isWord 4 = .ok (.aload_n 0, 1) := by decide +kernel
theorem dX5_isWord_5 : decode cX5_isWord 5 = .ok (.getfield 33, 3) := by decide +kernel
theorem dX5_isWord_8 : decode cX5_isWord 8 = .ok (.aload_n 0, 1) := by decide +kernel
theorem dX5_isWord_9 : decode cX5_isWord 9 = .ok (.getfield 43, 3) := by decide +kernel
theorem dX5_isWord_12 : decode cX5_isWord 12 = .ok (.isub, 1) := by decide +kernel
theorem dX5_isWord_13 : decode cX5_isWord 13 = .ok (.if_icmp .eq 5, 3) := by decide +kernel
theorem dX5_isWord_16 : decode cX5_isWord 16 = .ok (.iconst 0, 1) := by decide +kernel
theorem dX5_isWord_17 : decode cX5_isWord 17 = .ok (.ireturn, 1) := by decide +kernel
theorem dX5_isWord_18 : decode cX5_isWord 18 = .ok (.iconst 0, 1) := by decide +kernel
theorem dX5_isWord_19 : decode cX5_isWord 19 = .ok (.istore_n 2, 1) := by decide +kernel
theorem dX5_isWord_20 : decode cX5_isWord 20 = .ok (.iload_n 2, 1) := by decide +kernel
theorem dX5_isWord_21 : decode cX5_isWord 21 = .ok (.aload_n 1, 1) := by decide +kernel
theorem dX5_isWord_22 : decode cX5_isWord 22 = .ok (.invokevirtual 56, 3) := by decide +kernel
theorem dX5_isWord_25 : decode cX5_isWord 25 = .ok (.if_icmp .ge 30, 3) := by decide +kernel
theorem dX5_isWord_28 : decode cX5_isWord 28 = .ok (.aload_n 0, 1) := by decide +kernel
theorem dX5_isWord_29 : decode cX5_isWord 29 = .ok (.getfield 9, 3) := by decide +kernel
theorem dX5_isWord_32 : decode cX5_isWord 32 = .ok (.aload_n 0, 1) := by decide +kernel
theorem dX5_isWord_33 : decode cX5_isWord 33 = .ok (.getfield 43, 3) := by decide +kernel
theorem dX5_isWord_36 : decode cX5_isWord 36 = .ok (.iload_n 2, 1) := by decide +kernel
theorem dX5_isWord_37 : decode cX5_isWord 37 = .ok (.iadd, 1) := by decide +kernel
theorem dX5_isWord_38 : decode cX5_isWord 38 = .ok (.iaload, 1) := by decide +kernel
theorem dX5_isWord_39 : decode cX5_isWord 39 = .ok (.aload_n 1, 1) := by decide +kernel
theorem dX5_isWord_40 : decode cX5_isWord 40 = .ok (.iload_n 2, 1) := by decide +kernel
theorem dX5_isWord_41 : decode cX5_isWord 41 = .ok (.invokevirtual 61, 3) := by decide +kernel
theorem dX5_isWord_44 : decode cX5_isWord 44 = .ok (.if_icmp .eq 5, 3) := by decide +kernel
theorem dX5_isWord_47 : decode cX5_isWord 47 = .ok (.iconst 0, 1) := by decide +kernel
theorem dX5_isWord_48 : decode cX5_isWord 48 = .ok (.ireturn, 1) := by decide +kernel
theorem dX5_isWord_49 : decode cX5_isWord 49 = .ok (.iinc 2 1, 3) := by decide +kernel
theorem dX5_isWord_52 : decode cX5_isWord 52 = .ok (.goto (-32), 3) := by decide +kernel
theorem dX5_isWord_55 : decode cX5_isWord 55 = .ok (.iconst 1, 1) := by decide +kernel
theorem dX5_isWord_56 : decode cX5_isWord 56 = .ok (.ireturn, 1) := by decide +kernel
theorem dX5_doLine_0 : decode cX5_doLine 0 = .ok (.aload_n 0, 1) := by decide +kernel
theorem dX5_doLine_1 : decode cX5_doLine 1 = .ok (.invokevirtual 46, 3) := by decide +kernel
theorem dX5_doLine_4 : decode cX5_doLine 4 = .ok (.aload_n 0, 1) := by decide +kernel
theorem dX5_doLine_5 : decode cX5_doLine 5 = .ok (.ldc 65, 2) := by decide +kernel
theorem dX5_doLine_7 : decode cX5_doLine 7 = .ok (.invokevirtual 67, 3) := by decide +kernel
theorem dX5_doLine_10 : decode cX5_doLine 10 = .ok (.ifCond .eq 8, 3) := by decide +kernel
theorem dX5_doLine_13 : decode cX5_doLine 13 = .ok (.aload_n 0, 1) := by decide +kernel
theorem dX5_doLine_14 : decode cX5_doLine 14 = .ok (.invokevirtual 71, 3) := by decide +kernel
theorem dX5_doLine_17 : decode cX5_doLine 17 = .ok (.ireturn, 1) := by decide +kernel
theorem dX5_doLine_18 : decode cX5_doLine 18 = .ok (.aload_n 0, 1) := by decide +kernel
theorem dX5_doLine_19 : decode cX5_doLine 19 = .ok (.ldc 74, 2) := by decide +kernel
theorem dX5_doLine_21 : decode cX5_doLine 21 = .ok (.invokevirtual 67, 3) := by decide +kernel
theorem dX5_doLine_24 : decode cX5_doLine 24 = .ok (.ifCond .eq 9, 3) := by decide +kernel
theorem dX5_doLine_27 : decode cX5_doLine 27 = .ok (.aload_n 0, 1) := by decide +kernel
theorem dX5_doLine_28 : decode cX5_doLine 28 = .ok (.iconst 0, 1) := by decide +kernel
theorem dX5_doLine_29 : decode cX5_doLine 29 = .ok (.invokevirtual 76, 3) := by decide +kernel
theorem dX5_doLine_32 : decode cX5_doLine 32 = .ok (.ireturn, 1) := by decide +kernel
theorem dX5_doLine_33 : decode cX5_doLine 33 = .ok (.aload_n 0, 1) := by decide +kernel
theorem dX5_doLine_34 : decode cX5_doLine 34 = .ok (.ldc 80, 2) := by decide +kernel
theorem dX5_doLine_36 : decode cX5_doLine 36 = .ok (.invokevirtual 67, 3) := by decide +kernel
theorem dX5_doLine_39 : decode cX5_doLine 39 = .ok (.ifCond .eq 9, 3) := by decide +kernel
theorem dX5_doLine_42 : decode cX5_doLine 42 = .ok (.aload_n 0, 1) := by decide +kernel
theorem dX5_doLine_43 : decode cX5_doLine 43 = .ok (.iconst 1, 1) := by decide +kernel
theorem dX5_doLine_44 : decode cX5_doLine 44 = .ok (.invokevirtual 76, 3) := by decide +kernel
theorem dX5_doLine_47 : decode cX5_doLine 47 = .ok (.ireturn, 1) := by decide +kernel
theorem dX5_doLine_48 : decode cX5_doLine 48 = .ok (.aload_n 0, 1) := by decide +kernel
theorem dX5_doLine_49 : decode cX5_doLine 49 = .ok (.ldc 82, 2) := by decide +kernel
theorem dX5_doLine_51 : decode cX5_doLine 51 = .ok (.invokevirtual 67, 3) := by decide +kernel
theorem dX5_doLine_54 : decode cX5_doLine 54 = .ok (.ifCond .eq 13, 3) := by decide +kernel
theorem dX5_doLine_57 : decode cX5_doLine 57 = .ok (.aload_n 0, 1) := by decide +kernel
theorem dX5_doLine_58 : decode cX5_doLine 58 = .ok (.getfield 18, 3) := by decide +kernel
theorem dX5_doLine_61 : decode cX5_doLine 61 = .ok (.iconst 0, 1) := by decide +kernel
theorem dX5_doLine_62 : decode cX5_doLine 62 = .ok (.putfield 84, 3) := by decide +kernel
theorem dX5_doLine_65 : decode cX5_doLine 65 = .ok (.iconst 1, 1) := by decide +kernel
theorem dX5_doLine_66 : decode cX5_doLine 66 = .ok (.ireturn, 1) := by decide +kernel
theorem dX5_doLine_67 : decode cX5_doLine 67 = .ok (.aload_n 0, 1) := by decide +kernel
theorem dX5_doLine_68 : decode cX5_doLine 68 = .ok (.invokevirtual 87, 3) := by decide +kernel
theorem dX5_doLine_71 : decode cX5_doLine 71 = .ok (.istore_n 1, 1) := by decide +kernel
theorem dX5_doLine_72 : decode cX5_doLine 72 = .ok (.iload_n 1, 1) := by decide +kernel
theorem dX5_doLine_73 : decode cX5_doLine 73 = .ok (.iconst (-1), 1) := by decide +kernel
theorem dX5_doLine_74 : decode cX5_doLine 74 = .ok (.if_icmp .eq 15, 3) := by decide +kernel
theorem dX5_doLine_77 : decode cX5_doLine 77 = .ok (.aload_n 0, 1) := by decide +kernel
theorem dX5_doLine_78 : decode cX5_doLine 78 = .ok (.iload_n 1, 1) := by decide +kernel
theorem dX5_doLine_79 : decode cX5_doLine 79 = .ok (.invokevirtual 90, 3) := by decide +kernel
theorem dX5_doLine_82 : decode cX5_doLine 82 = .ok (.ifCond .eq 7, 3) := by decide +kernel
theorem dX5_doLine_85 : decode cX5_doLine 85 = .ok (.iconst 1, 1) := by decide +kernel
theorem dX5_doLine_86 : decode cX5_doLine 86 = .ok (.goto 4, 3) := by decide +kernel
theorem dX5_doLine_89 : decode cX5_doLine 89 = .ok (.iconst 0, 1) := by decide +kernel
theorem dX5_doLine_90 : decode cX5_doLine 90 = .ok (.ireturn, 1) := by decide +kernel
theorem dX5_kindOfWord_0 : decode cX5_kindOfWord 0 = .ok (.aload_n 0, 1) := by decide +kernel
theorem dX5_kindOfWord_1 : decode cX5_kindOfWord 1 = .ok (.ldc 93, 2) := by decide +kernel
theorem dX5_kindOfWord_3 : decode cX5_kindOfWord 3 = .ok (.invokevirtual 67, 3) := by decide +kernel
theorem dX5_kindOfWord_6 : decode cX5_kindOfWord 6 = .ok (.ifCond .eq 5, 3) := by decide +kernel
theorem dX5_kindOfWord_9 : decode cX5_kindOfWord 9 = .ok (.iconst 0, 1) := by decide +kernel
theorem dX5_kindOfWord_10 : decode cX5_kindOfWord 10 = .ok (.ireturn, 1) := by decide +kernel
theorem dX5_kindOfWord_11 : decode cX5_kindOfWord 11 = .ok (.aload_n 0, 1) := by decide +kernel
theorem dX5_kindOfWord_12 : decode cX5_kindOfWord 12 = .ok (.ldc 95, 2) := by decide +kernel
theorem dX5_kindOfWord_14 : decode cX5_kindOfWord 14 = .ok (.invokevirtual 67, 3) := by decide +kernel
theorem dX5_kindOfWord_17 : decode cX5_kindOfWord 17 = .ok (.ifCond .eq 5, 3) := by decide +kernel
theorem dX5_kindOfWord_20 : decode cX5_kindOfWord 20 = .ok (.iconst 1, 1) := by decide +kernel
theorem dX5_kindOfWord_21 : decode cX5_kindOfWord 21 = .ok (.ireturn, 1) := by decide +kernel
theorem dX5_kindOfWord_22 : decode cX5_kindOfWord 22 = .ok (.aload_n 0, 1) := by decide +kernel
theorem dX5_kindOfWord_23 : decode cX5_kindOfWord 23 = .ok (.ldc 97, 2) := by decide +kernel
theorem dX5_kindOfWord_25 : decode cX5_kindOfWord 25 = .ok (.invokevirtual 67, 3) := by decide +kernel
theorem dX5_kindOfWord_28 : decode cX5_kindOfWord 28 = .ok (.ifCond .eq 5, 3) := by decide +kernel
theorem dX5_kindOfWord_31 : decode cX5_kindOfWord 31 = .ok (.iconst 2, 1) := by decide +kernel
theorem dX5_kindOfWord_32 : decode cX5_kindOfWord 32 = .ok (.ireturn, 1) := by decide +kernel
theorem dX5_kindOfWord_33 : decode cX5_kindOfWord 33 = .ok (.aload_n 0, 1) := by decide +kernel
theorem dX5_kindOfWord_34 : decode cX5_kindOfWord 34 = .ok (.ldc 99, 2) := by decide +kernel
theorem dX5_kindOfWord_36 : decode cX5_kindOfWord 36 = .ok (.invokevirtual 67, 3) := by decide +kernel
theorem dX5_kindOfWord_39 : decode cX5_kindOfWord 39 = .ok (.ifCond .eq 7, 3) := by decide +kernel
theorem dX5_kindOfWord_42 : decode cX5_kindOfWord 42 = .ok (.iconst 3, 1) := by decide +kernel
theorem dX5_kindOfWord_43 : decode cX5_kindOfWord 43 = .ok (.goto 4, 3) := by decide +kernel
theorem dX5_kindOfWord_46 : decode cX5_kindOfWord 46 = .ok (.iconst (-1), 1) := by decide +kernel
theorem dX5_kindOfWord_47 : decode cX5_kindOfWord 47 = .ok (.ireturn, 1) := by decide +kernel
theorem dX5_doInn_0 : decode cX5_doInn 0 = .ok (.aload_n 0, 1) := by decide +kernel
theorem dX5_doInn_1 : decode cX5_doInn 1 = .ok (.iconst 3, 1) := by decide +kernel
theorem dX5_doInn_2 : decode cX5_doInn 2 = .ok (.bipush 12, 2) := by decide +kernel
theorem dX5_doInn_4 : decode cX5_doInn 4 = .ok (.invokevirtual 101, 3) := by decide +kernel
theorem dX5_doInn_7 : decode cX5_doInn 7 = .ok (.ifCond .ne 5, 3) := by decide +kernel
theorem dX5_doInn_10 : decode cX5_doInn 10 = .ok (.iconst 0, 1) := by decide +kernel
theorem dX5_doInn_11 : decode cX5_doInn 11 = .ok (.ireturn, 1) := by decide +kernel
theorem dX5_doInn_12 : decode cX5_doInn 12 = .ok (.aload_n 0, 1) := by decide +kernel
theorem dX5_doInn_13 : decode cX5_doInn 13 = .ok (.getfield 18, 3) := by decide +kernel
theorem dX5_doInn_16 : decode cX5_doInn 16 = .ok (.aload_n 0, 1) := by decide +kernel
theorem dX5_doInn_17 : decode cX5_doInn 17 = .ok (.getfield 105, 3) := by decide +kernel
theorem dX5_doInn_20 : decode cX5_doInn 20 = .ok (.invokevirtual 108, 3) := by decide +kernel
theorem dX5_doInn_23 : decode cX5_doInn 23 = .ok (.iconst 1, 1) := by decide +kernel
theorem dX5_doInn_24 : decode cX5_doInn 24 = .ok (.ireturn, 1) := by decide +kernel
theorem dX5_doChair_0 : decode cX5_doChair 0 = .ok (.aload_n 0, 1) := by decide +kernel
theorem dX5_doChair_1 : decode cX5_doChair 1 = .ok (.iconst 0, 1) := by decide +kernel
theorem dX5_doChair_2 : decode cX5_doChair 2 = .ok (.aload_n 0, 1) := by decide +kernel
theorem dX5_doChair_3 : decode cX5_doChair 3 = .ok (.getfield 18, 3) := by decide +kernel
theorem dX5_doChair_6 : decode cX5_doChair 6 = .ok (.getfield 112, 3) := by decide +kernel
theorem dX5_doChair_9 : decode cX5_doChair 9 = .ok (.iconst 1, 1) := by decide +kernel
theorem dX5_doChair_10 : decode cX5_doChair 10 = .ok (.isub, 1) := by decide +kernel
theorem dX5_doChair_11 : decode cX5_doChair 11 = .ok (.invokevirtual 101, 3) := by decide +kernel
theorem dX5_doChair_14 : decode cX5_doChair 14 = .ok (.ifCond .eq 18, 3) := by decide +kernel
theorem dX5_doChair_17 : decode cX5_doChair 17 = .ok (.aload_n 0, 1) := by decide +kernel
theorem dX5_doChair_18 : decode cX5_doChair 18 = .ok (.getfield 18, 3) := by decide +kernel
theorem dX5_doChair_21 : decode cX5_doChair 21 = .ok (.aload_n 0, 1) := by decide +kernel
theorem dX5_doChair_22 : decode cX5_doChair 22 = .ok (.getfield 105, 3) := by decide +kernel
theorem dX5_doChair_25 : decode cX5_doChair 25 = .ok (.invokevirtual 115, 3) := by decide +kernel
theorem dX5_doChair_28 : decode cX5_doChair 28 = .ok (.iload_n 1, 1) := by decide +kernel
theorem dX5_doChair_29 : decode cX5_doChair 29 = .ok (.if_icmp .eq 5, 3) := by decide +kernel
theorem dX5_doChair_32 : decode cX5_doChair 32 = .ok (.iconst 0, 1) := by decide +kernel
theorem dX5_doChair_33 : decode cX5_doChair 33 = .ok (.ireturn, 1) := by decide +kernel
theorem dX5_doChair_34 : decode cX5_doChair 34 = .ok (.aload_n 0, 1) := by decide +kernel
theorem dX5_doChair_35 : decode cX5_doChair 35 = .ok (.getfield 18, 3) := by decide +kernel
theorem dX5_doChair_38 : decode cX5_doChair 38 = .ok (.dup, 1) := by decide +kernel
theorem dX5_doChair_39 : decode cX5_doChair 39 = .ok (.getfield 118, 3) := by decide +kernel
theorem dX5_doChair_42 : decode cX5_doChair 42 = .ok (.iconst 1, 1) := by decide +kernel
theorem dX5_doChair_43 : decode cX5_doChair 43 = .ok (.aload_n 0, 1) := by decide +kernel
theorem dX5_doChair_44 : decode cX5_doChair 44 = .ok (.getfield 105, 3) := by decide +kernel
theorem dX5_doChair_47 : decode cX5_doChair 47 = .ok (.ishl, 1) := by decide +kernel
theorem dX5_doChair_48 : decode cX5_doChair 48 = .ok (.ixor, 1) := by decide +kernel
theorem dX5_doChair_49 : decode cX5_doChair 49 = .ok (.putfield 118, 3) := by decide +kernel
theorem dX5_doChair_52 : decode cX5_doChair 52 = .ok (.iconst 1, 1) := by decide +kernel
theorem dX5_doChair_53 : decode cX5_doChair 53 = .ok (.ireturn, 1) := by decide +kernel
theorem dX5_doGuest_0 : decode cX5_doGuest 0 = .ok (.aload_n 0, 1) := by decide +kernel
theorem dX5_doGuest_1 : decode cX5_doGuest 1 = .ok (.getfield 18, 3) := by decide +kernel
theorem dX5_doGuest_4 : decode cX5_doGuest 4 = .ok (.getfield 84, 3) := by decide +kernel
theorem dX5_doGuest_7 : decode cX5_doGuest 7 = .ok (.bipush 6, 2) := by decide +kernel
theorem dX5_doGuest_9 : decode cX5_doGuest 9 = .ok (.if_icmp .lt 5, 3) := by decide +kernel
theorem dX5_doGuest_12 : decode cX5_doGuest 12 = .ok (.iconst 0, 1) := by decide +kernel
theorem dX5_doGuest_13 : decode cX5_doGuest 13 = .ok (.ireturn, 1) := by decide +kernel
theorem dX5_doGuest_14 : decode cX5_doGuest 14 = .ok (.iconst 0, 1) := by decide +kernel
theorem dX5_doGuest_15 : decode cX5_doGuest 15 = .ok (.istore_n 2, 1) := by decide +kernel
theorem dX5_doGuest_16 : decode cX5_doGuest 16 = .ok (.iload_n 2, 1) := by decide +kernel
theorem dX5_doGuest_17 : decode cX5_doGuest 17 = .ok (.iconst 4, 1) := by decide +kernel
theorem dX5_doGuest_18 : decode cX5_doGuest 18 = .ok (.if_icmp .ge 34, 3) := by decide +kernel
theorem dX5_doGuest_21 : decode cX5_doGuest 21 = .ok (.aload_n 0, 1) := by decide +kernel
theorem dX5_doGuest_22 : decode cX5_doGuest 22 = .ok (.iconst 0, 1) := by decide +kernel
theorem dX5_doGuest_23 : decode cX5_doGuest 23 = .ok (.aload_n 0, 1) := by decide +kernel
theorem dX5_doGuest_24 : decode cX5_doGuest 24 = .ok (.iload_n 2, 1) := by decide +kernel
theorem dX5_doGuest_25 : decode cX5_doGuest 25 = .ok (.invokevirtual 121, 3) := by decide +kernel
theorem dX5_doGuest_28 : decode cX5_doGuest 28 = .ok (.invokevirtual 101, 3) := by decide +kernel
theorem dX5_doGuest_31 : decode cX5_doGuest 31 = .ok (.ifCond .ne 5, 3) := by decide +kernel
theorem dX5_doGuest_34 : decode cX5_doGuest 34 = .ok (.iconst 0, 1) := by decide +kernel
theorem dX5_doGuest_35 : decode cX5_doGuest 35 = .ok (.ireturn, 1) := by decide +kernel
theorem dX5_doGuest_36 : decode cX5_doGuest 36 = .ok (.aload_n 0, 1) := by decide +kernel
theorem dX5_doGuest_37 : decode cX5_doGuest 37 = .ok (.getfield 22, 3) := by decide +kernel
theorem dX5_doGuest_40 : decode cX5_doGuest 40 = .ok (.iload_n 2, 1) := by decide +kernel
theorem dX5_doGuest_41 : decode cX5_doGuest 41 = .ok (.aload_n 0, 1) := by decide +kernel
theorem dX5_doGuest_42 : decode cX5_doGuest 42 = .ok (.getfield 105, 3) := by decide +kernel
theorem dX5_doGuest_45 : decode cX5_doGuest 45 = .ok (.iastore, 1) := by decide +kernel
theorem dX5_doGuest_46 : decode cX5_doGuest 46 = .ok (.iinc 2 1, 3) := by decide +kernel
theorem dX5_doGuest_49 : decode cX5_doGuest 49 = .ok (.goto (-33), 3) := by decide +kernel
theorem dX5_doGuest_52 : decode cX5_doGuest 52 = .ok (.aload_n 0, 1) := by decide +kernel
theorem dX5_doGuest_53 : decode cX5_doGuest 53 = .ok (.getfield 18, 3) := by decide +kernel
theorem dX5_doGuest_56 : decode cX5_doGuest 56 = .ok (.iload_n 1, 1) := by decide +kernel
theorem dX5_doGuest_57 : decode cX5_doGuest 57 = .ok (.aload_n 0, 1) := by decide +kernel
theorem dX5_doGuest_58 : decode cX5_doGuest 58 = .ok (.getfield 22, 3) := by decide +kernel
theorem dX5_doGuest_61 : decode cX5_doGuest 61 = .ok (.invokevirtual 125, 3) := by decide +kernel
theorem dX5_doGuest_64 : decode cX5_doGuest 64 = .ok (.ireturn, 1) := by decide +kernel
theorem dX5_mostOf_0 : decode cX5_mostOf 0 = .ok (.iload_n 1, 1) := by decide +kernel
theorem dX5_mostOf_1 : decode cX5_mostOf 1 = .ok (.tableswitch 41 0 2 #[27, 37, 39], 27) := by decide +kernel
theorem dX5_mostOf_28 : decode cX5_mostOf 28 = .ok (.aload_n 0, 1) := by decide +kernel
theorem dX5_mostOf_29 : decode cX5_mostOf 29 = .ok (.getfield 18, 3) := by decide +kernel
theorem dX5_mostOf_32 : decode cX5_mostOf 32 = .ok (.getfield 112, 3) := by decide +kernel
theorem dX5_mostOf_35 : decode cX5_mostOf 35 = .ok (.iconst 1, 1) := by decide +kernel
theorem dX5_mostOf_36 : decode cX5_mostOf 36 = .ok (.isub, 1) := by decide +kernel
theorem dX5_mostOf_37 : decode cX5_mostOf 37 = .ok (.ireturn, 1) := by decide +kernel
theorem dX5_mostOf_38 : decode cX5_mostOf 38 = .ok (.iconst 3, 1) := by decide +kernel
theorem dX5_mostOf_39 : decode cX5_mostOf 39 = .ok (.ireturn, 1) := by decide +kernel
theorem dX5_mostOf_40 : decode cX5_mostOf 40 = .ok (.iconst 1, 1) := by decide +kernel
theorem dX5_mostOf_41 : decode cX5_mostOf 41 = .ok (.ireturn, 1) := by decide +kernel
theorem dX5_mostOf_42 : decode cX5_mostOf 42 = .ok (.bipush 99, 2) := by decide +kernel
theorem dX5_mostOf_44 : decode cX5_mostOf 44 = .ok (.ireturn, 1) := by decide +kernel
theorem dX5_readNumber_0 : decode cX5_readNumber 0 = .ok (.aload_n 0, 1) := by decide +kernel
theorem dX5_readNumber_1 : decode cX5_readNumber 1 = .ok (.invokevirtual 46, 3) := by decide +kernel
theorem dX5_readNumber_4 : decode cX5_readNumber 4 = .ok (.aload_n 0, 1) := by decide +kernel
theorem dX5_readNumber_5 : decode cX5_readNumber 5 = .ok (.getfield 43, 3) := by decide +kernel
theorem dX5_readNumber_8 : decode cX5_readNumber 8 = .ok (.aload_n 0, 1) := by decide +kernel
theorem dX5_readNumber_9 : decode cX5_readNumber 9 = .ok (.getfield 25, 3) := by decide +kernel
theorem dX5_readNumber_12 : decode cX5_readNumber 12 = .ok (.if_icmp .ge 31, 3) := by decide +kernel
theorem dX5_readNumber_15 : decode cX5_readNumber 15 = .ok (.aload_n 0, 1) := by decide +kernel
theorem dX5_readNumber_16 : decode cX5_readNumber 16 = .ok (.getfield 9, 3) := by decide +kernel
theorem dX5_readNumber_19 : decode cX5_readNumber 19 = .ok (.aload_n 0, 1) := by decide +kernel
theorem dX5_readNumber_20 : decode cX5_readNumber 20 = .ok (.getfield 43, 3) := by decide +kernel
theorem dX5_readNumber_23 : decode cX5_readNumber 23 = .ok (.iaload, 1) := by decide +kernel
theorem dX5_readNumber_24 : decode cX5_readNumber 24 = .ok (.invokestatic 53, 3) := by decide +kernel
theorem dX5_readNumber_27 : decode cX5_readNumber 27 = .ok (.ifCond .eq 16, 3) := by decide +kernel
theorem dX5_readNumber_30 : decode cX5_readNumber 30 = .ok (.aload_n 0, 1) := by decide +kernel
theorem dX5_readNumber_31 : decode cX5_readNumber 31 = .ok (.getfield 33, 3) := by decide +kernel
theorem dX5_readNumber_34 : decode cX5_readNumber 34 = .ok (.aload_n 0, 1) := by decide +kernel
theorem dX5_readNumber_35 : decode cX5_readNumber 35 = .ok (.getfield 43, 3) := by decide +kernel
theorem dX5_readNumber_38 : decode cX5_readNumber 38 = .ok (.isub, 1) := by decide +kernel
theorem dX5_readNumber_39 : decode cX5_readNumber 39 = .ok (.iconst 2, 1) := by decide +kernel
theorem dX5_readNumber_40 : decode cX5_readNumber 40 = .ok (.if_icmp .le 5, 3) := by decide +kernel
theorem dX5_readNumber_43 : decode cX5_readNumber 43 = .ok (.iconst 0, 1) := by decide +kernel
theorem dX5_readNumber_44 : decode cX5_readNumber 44 = .ok (.ireturn, 1) := by decide +kernel
theorem dX5_readNumber_45 : decode cX5_readNumber 45 = .ok (.aload_n 0, 1) := by decide +kernel
theorem dX5_readNumber_46 : decode cX5_readNumber 46 = .ok (.iconst 0, 1) := by decide +kernel
theorem dX5_readNumber_47 : decode cX5_readNumber 47 = .ok (.putfield 105, 3) := by decide +kernel
theorem dX5_readNumber_50 : decode cX5_readNumber 50 = .ok (.aload_n 0, 1) := by decide +kernel
theorem dX5_readNumber_51 : decode cX5_readNumber 51 = .ok (.getfield 43, 3) := by decide +kernel
theorem dX5_readNumber_54 : decode cX5_readNumber 54 = .ok (.istore_n 3, 1) := by decide +kernel
theorem dX5_readNumber_55 : decode cX5_readNumber 55 = .ok (.iload_n 3, 1) := by decide +kernel
theorem dX5_readNumber_56 : decode cX5_readNumber 56 = .ok (.aload_n 0, 1) := by decide +kernel
theorem dX5_readNumber_57 : decode cX5_readNumber 57 = .ok (.getfield 33, 3) := by decide +kernel
theorem dX5_readNumber_60 : decode cX5_readNumber 60 = .ok (.if_icmp .ge 30, 3) := by decide +kernel
theorem dX5_readNumber_63 : decode cX5_readNumber 63 = .ok (.aload_n 0, 1) := by decide +kernel
theorem dX5_readNumber_64 : decode cX5_readNumber 64 = .ok (.aload_n 0, 1) := by decide +kernel
theorem dX5_readNumber_65 : decode cX5_readNumber 65 = .ok (.getfield 105, 3) := by decide +kernel
theorem dX5_readNumber_68 : decode cX5_readNumber 68 = .ok (.bipush 10, 2) := by decide +kernel
theorem dX5_readNumber_70 : decode cX5_readNumber 70 = .ok (.imul, 1) := by decide +kernel
theorem dX5_readNumber_71 : decode cX5_readNumber 71 = .ok (.aload_n 0, 1) := by decide +kernel
theorem dX5_readNumber_72 : decode cX5_readNumber 72 = .ok (.getfield 9, 3) := by decide +kernel
theorem dX5_readNumber_75 : decode cX5_readNumber 75 = .ok (.iload_n 3, 1) := by decide +kernel
theorem dX5_readNumber_76 : decode cX5_readNumber 76 = .ok (.iaload, 1) := by decide +kernel
theorem dX5_readNumber_77 : decode cX5_readNumber 77 = .ok (.iadd, 1) := by decide +kernel
theorem dX5_readNumber_78 : decode cX5_readNumber 78 = .ok (.bipush 48, 2) := by decide +kernel
theorem dX5_readNumber_80 : decode cX5_readNumber 80 = .ok (.isub, 1) := by decide +kernel
theorem dX5_readNumber_81 : decode cX5_readNumber 81 = .ok (.putfield 105, 3) := by decide +kernel
theorem dX5_readNumber_84 : decode cX5_readNumber 84 = .ok (.iinc 3 1, 3) := by decide +kernel
theorem dX5_readNumber_87 : decode cX5_readNumber 87 = .ok (.goto (-32), 3) := by decide +kernel
theorem dX5_readNumber_90 : decode cX5_readNumber 90 = .ok (.aload_n 0, 1) := by decide +kernel
theorem dX5_readNumber_91 : decode cX5_readNumber 91 = .ok (.getfield 105, 3) := by decide +kernel
theorem dX5_readNumber_94 : decode cX5_readNumber 94 = .ok (.iload_n 1, 1) := by decide +kernel
theorem dX5_readNumber_95 : decode cX5_readNumber 95 = .ok (.if_icmp .lt 15, 3) := by decide +kernel
theorem dX5_readNumber_98 : decode cX5_readNumber 98 = .ok (.aload_n 0, 1) := by decide +kernel
theorem dX5_readNumber_99 : decode cX5_readNumber 99 = .ok (.getfield 105, 3) := by decide +kernel
theorem dX5_readNumber_102 : decode cX5_readNumber 102 = .ok (.iload_n 2, 1) := by decide +kernel
theorem dX5_readNumber_103 : decode cX5_readNumber 103 = .ok (.if_icmp .gt 7, 3) := by decide +kernel
theorem dX5_readNumber_106 : decode cX5_readNumber 106 = .ok (.iconst 1, 1) := by decide +kernel
theorem dX5_readNumber_107 : decode cX5_readNumber 107 = .ok (.goto 4, 3) := by decide +kernel
theorem dX5_readNumber_110 : decode cX5_readNumber 110 = .ok (.iconst 0, 1) := by decide +kernel
theorem dX5_readNumber_111 : decode cX5_readNumber 111 = .ok (.ireturn, 1) := by decide +kernel
theorem dX6_init_0 : decode cX6_init 0 = .ok (.aload_n 0, 1) := by decide +kernel
theorem dX6_init_1 : decode cX6_init 1 = .ok (.invokespecial 3, 3) := by decide +kernel
theorem dX6_init_4 : decode cX6_init 4 = .ok (.aload_n 0, 1) := by decide +kernel
theorem dX6_init_5 : decode cX6_init 5 = .ok (.bipush 8, 2) := by decide +kernel
theorem dX6_init_7 : decode cX6_init 7 = .ok (.putfield 9, 3) := by decide +kernel
theorem dX6_init_10 : decode cX6_init 10 = .ok (.aload_n 0, 1) := by decide +kernel
theorem dX6_init_11 : decode cX6_init 11 = .ok (.bipush 6, 2) := by decide +kernel
theorem dX6_init_13 : decode cX6_init 13 = .ok (.newarray .int, 2) := by decide +kernel
theorem dX6_init_15 : decode cX6_init 15 = .ok (.putfield 15, 3) := by decide +kernel
theorem dX6_init_18 : decode cX6_init 18 = .ok (.aload_n 0, 1) := by decide +kernel
theorem dX6_init_19 : decode cX6_init 19 = .ok (.bipush 6, 2) := by decide +kernel
theorem dX6_init_21 : decode cX6_init 21 = .ok (.newarray .int, 2) := by decide +kernel
theorem dX6_init_23 : decode cX6_init 23 = .ok (.putfield 19, 3) := by decide +kernel
theorem dX6_init_26 : decode cX6_init 26 = .ok (.aload_n 0, 1) := by decide +kernel
theorem dX6_init_27 : decode cX6_init 27 = .ok (.bipush 6, 2) := by decide +kernel
theorem dX6_init_29 : decode cX6_init 29 = .ok (.newarray .int, 2) := by decide +kernel
theorem dX6_init_31 : decode cX6_init 31 = .ok (.putfield 22, 3) := by decide +kernel
theorem dX6_init_34 : decode cX6_init 34 = .ok (.aload_n 0, 1) := by decide +kernel
theorem dX6_init_35 : decode cX6_init 35 = .ok (.bipush 6, 2) := by decide +kernel
theorem dX6_init_37 : decode cX6_init 37 = .ok (.newarray .int, 2) := by decide +kernel
theorem dX6_init_39 : decode cX6_init 39 = .ok (.putfield 25, 3) := by decide +kernel
theorem dX6_init_42 : decode cX6_init 42 = .ok (.aload_n 0, 1) := by decide +kernel
theorem dX6_init_43 : decode cX6_init 43 = .ok (.bipush 6, 2) := by decide +kernel
theorem dX6_init_45 : decode cX6_init 45 = .ok (.newarray .int, 2) := by decide +kernel
theorem dX6_init_47 : decode cX6_init 47 = .ok (.putfield 28, 3) := by decide +kernel
theorem dX6_init_50 : decode cX6_init 50 = .ok (.return_, 1) := by decide +kernel
theorem dX6_copyFrom_0 : decode cX6_copyFrom 0 = .ok (.aload_n 0, 1) := by decide +kernel
theorem dX6_copyFrom_1 : decode cX6_copyFrom 1 = .ok (.aload_n 1, 1) := by decide +kernel
theorem dX6_copyFrom_2 : decode cX6_copyFrom 2 = .ok (.getfield 9, 3) := by decide +kernel
theorem dX6_copyFrom_5 : decode cX6_copyFrom 5 = .ok (.putfield 9, 3) := by decide +kernel
theorem dX6_copyFrom_8 : decode cX6_copyFrom 8 = .ok (.aload_n 0, 1) := by decide +kernel
theorem dX6_copyFrom_9 : decode cX6_copyFrom 9 = .ok (.aload_n 1, 1) := by decide +kernel
theorem dX6_copyFrom_10 : decode cX6_copyFrom 10 = .ok (.getfield 31, 3) := by decide +kernel
theorem dX6_copyFrom_13 : decode cX6_copyFrom 13 = .ok (.putfield 31, 3) := by decide +kernel
theorem dX6_copyFrom_16 : decode cX6_copyFrom 16 = .ok (.aload_n 0, 1) := by decide +kernel
theorem dX6_copyFrom_17 : decode cX6_copyFrom 17 = .ok (.aload_n 1, 1) := by decide +kernel
theorem dX6_copyFrom_18 : decode cX6_copyFrom 18 = .ok (.getfield 34, 3) := by decide +kernel
theorem dX6_copyFrom_21 : decode cX6_copyFrom 21 = .ok (.putfield 34, 3) := by decide +kernel
theorem dX6_copyFrom_24 : decode cX6_copyFrom 24 = .ok (.aload_n 1, 1) := by decide +kernel
theorem dX6_copyFrom_25 : decode cX6_copyFrom 25 = .ok (.getfield 15, 3) := by decide +kernel
theorem dX6_copyFrom_28 : decode cX6_copyFrom 28 = .ok (.iconst 0, 1) := by decide +kernel
theorem dX6_copyFrom_29 : decode cX6_copyFrom 29 = .ok (.aload_n 0, 1) := by decide +kernel
theorem dX6_copyFrom_30 : decode cX6_copyFrom 30 = .ok (.getfield 15, 3) := by decide +kernel
theorem dX6_copyFrom_33 : decode cX6_copyFrom 33 = .ok (.iconst 0, 1) := by decide +kernel
theorem dX6_copyFrom_34 : decode cX6_copyFrom 34 = .ok (.bipush 6, 2) := by decide +kernel
theorem dX6_copyFrom_36 : decode cX6_copyFrom 36 = .ok (.invokestatic 37, 3) := by decide +kernel
theorem dX6_copyFrom_39 : decode cX6_copyFrom 39 = .ok (.aload_n 1, 1) := by decide +kernel
theorem dX6_copyFrom_40 : decode cX6_copyFrom 40 = .ok (.getfield 19, 3) := by decide +kernel
theorem dX6_copyFrom_43 : decode cX6_copyFrom 43 = .ok (.iconst 0, 1) := by decide +kernel
theorem dX6_copyFrom_44 : decode cX6_copyFrom 44 = .ok (.aload_n 0, 1) := by decide +kernel
theorem dX6_copyFrom_45 : decode cX6_copyFrom 45 = .ok (.getfield 19, 3) := by decide +kernel
theorem dX6_copyFrom_48 : decode cX6_copyFrom 48 = .ok (.iconst 0, 1) := by decide +kernel
theorem dX6_copyFrom_49 : decode cX6_copyFrom 49 = .ok (.bipush 6, 2) := by decide +kernel
theorem dX6_copyFrom_51 : decode cX6_copyFrom 51 = .ok (.invokestatic 37, 3) := by decide +kernel
theorem dX6_copyFrom_54 : decode cX6_copyFrom 54 = .ok (.aload_n 1, 1) := by decide +kernel
theorem dX6_copyFrom_55 : decode cX6_copyFrom 55 = .ok (.getfield 22, 3) := by decide +kernel
theorem dX6_copyFrom_58 : decode cX6_copyFrom 58 = .ok (.iconst 0, 1) := by decide +kernel
theorem dX6_copyFrom_59 : decode cX6_copyFrom 59 = .ok (.aload_n 0, 1) := by decide +kernel
theorem dX6_copyFrom_60 : decode cX6_copyFrom 60 = .ok (.getfield 22, 3) := by decide +kernel
theorem dX6_copyFrom_63 : decode cX6_copyFrom 63 = .ok (.iconst 0, 1) := by decide +kernel
theorem dX6_copyFrom_64 : decode cX6_copyFrom 64 = .ok (.bipush 6, 2) := by decide +kernel
theorem dX6_copyFrom_66 : decode cX6_copyFrom 66 = .ok (.invokestatic 37, 3) := by decide +kernel
theorem dX6_copyFrom_69 : decode cX6_copyFrom 69 = .ok (.aload_n 1, 1) := by decide +kernel
theorem dX6_copyFrom_70 : decode cX6_copyFrom 70 = .ok (.getfield 25, 3) := by decide +kernel
theorem dX6_copyFrom_73 : decode cX6_copyFrom 73 = .ok (.iconst 0, 1) := by decide +kernel
theorem dX6_copyFrom_74 : decode cX6_copyFrom 74 = .ok (.aload_n 0, 1) := by decide +kernel
theorem dX6_copyFrom_75 : decode cX6_copyFrom 75 = .ok (.getfield 25, 3) := by decide +kernel
theorem dX6_copyFrom_78 : decode cX6_copyFrom 78 = .ok (.iconst 0, 1) := by decide +kernel
theorem dX6_copyFrom_79 : decode cX6_copyFrom 79 = .ok (.bipush 6, 2) := by decide +kernel
theorem dX6_copyFrom_81 : decode cX6_copyFrom 81 = .ok (.invokestatic 37, 3) := by decide +kernel
theorem dX6_copyFrom_84 : decode cX6_copyFrom 84 = .ok (.aload_n 1, 1) := by decide +kernel
theorem dX6_copyFrom_85 : decode cX6_copyFrom 85 = .ok (.getfield 28, 3) := by decide +kernel
theorem dX6_copyFrom_88 : decode cX6_copyFrom 88 = .ok (.iconst 0, 1) := by decide +kernel
theorem dX6_copyFrom_89 : decode cX6_copyFrom 89 = .ok (.aload_n 0, 1) := by decide +kernel
theorem dX6_copyFrom_90 : decode cX6_copyFrom 90 = .ok (.getfield 28, 3) := by decide +kernel
theorem dX6_copyFrom_93 : decode cX6_copyFrom 93 = .ok (.iconst 0, 1) := by decide +kernel
theorem dX6_copyFrom_94 : decode cX6_copyFrom 94 = .ok (.bipush 6, 2) := by decide +kernel
theorem dX6_copyFrom_96 : decode cX6_copyFrom 96 = .ok (.invokestatic 37, 3) := by decide +kernel
theorem dX6_copyFrom_99 : decode cX6_copyFrom 99 = .ok (.return_, 1) := by decide +kernel
theorem dX6_hasPlace_0 : decode cX6_hasPlace 0 = .ok (.iload_n 1, 1) := by decide +kernel
theorem dX6_hasPlace_1 : decode cX6_hasPlace 1 = .ok (.ifCond .lt 15, 3) := by decide +kernel
theorem dX6_hasPlace_4 : decode cX6_hasPlace 4 = .ok (.iload_n 1, 1) := by decide +kernel
theorem dX6_hasPlace_5 : decode cX6_hasPlace 5 = .ok (.aload_n 0, 1) := by decide +kernel
theorem dX6_hasPlace_6 : decode cX6_hasPlace 6 = .ok (.getfield 9, 3) := by decide +kernel
theorem dX6_hasPlace_9 : decode cX6_hasPlace 9 = .ok (.if_icmp .ge 7, 3) := by decide +kernel
theorem dX6_hasPlace_12 : decode cX6_hasPlace 12 = .ok (.iconst 1, 1) := by decide +kernel
theorem dX6_hasPlace_13 : decode cX6_hasPlace 13 = .ok (.goto 4, 3) := by decide +kernel
theorem dX6_hasPlace_16 : decode cX6_hasPlace 16 = .ok (.iconst 0, 1) := by decide +kernel
theorem dX6_hasPlace_17 : decode cX6_hasPlace 17 = .ok (.ireturn, 1) := by decide +kernel
theorem dX6_hasChair_0 : decode cX6_hasChair 0 = .ok (.aload_n 0, 1) := by decide +kernel
theorem dX6_hasChair_1 : decode cX6_hasChair 1 = .ok (.iload_n 1, 1) := by decide +kernel
theorem dX6_hasChair_2 : decode cX6_hasChair 2 = .ok (.invokevirtual 43, 3) := by decide +kernel
theorem dX6_hasChair_5 : decode cX6_hasChair 5 = .ok (.ifCond .eq 18, 3) := by decide +kernel
theorem dX6_hasChair_8 : decode cX6_hasChair 8 = .ok (.aload_n 0, 1) := by decide +kernel
theorem dX6_hasChair_9 : decode cX6_hasChair 9 = .ok (.getfield 31, 3) := by decide +kernel
theorem dX6_hasChair_12 : decode cX6_hasChair 12 = .ok (.iload_n 1, 1) := by decide +kernel
theorem dX6_hasChair_13 : decode cX6_hasChair 13 = .ok (.invokestatic 47, 3) := by decide +kernel
theorem dX6_hasChair_16 : decode cX6_hasChair 16 = .ok (.ifCond .eq 7, 3) := by decide +kernel
theorem dX6_hasChair_19 : decode cX6_hasChair 19 = .ok (.iconst 1, 1) := by decide +kernel
theorem dX6_hasChair_20 : decode cX6_hasChair 20 = .ok (.goto 4, 3) := by decide +kernel
theorem dX6_hasChair_23 : decode cX6_hasChair 23 = .ok (.iconst 0, 1) := by decide +kernel
theorem dX6_hasChair_24 : decode cX6_hasChair 24 = .ok (.ireturn, 1) := by decide +kernel
theorem dX6_hasGuest_0 : decode cX6_hasGuest 0 = .ok (.iload_n 1, 1) := by decide +kernel
theorem dX6_hasGuest_1 : decode cX6_hasGuest 1 = .ok (.ifCond .lt 15, 3) := by decide +kernel
theorem dX6_hasGuest_4 : decode cX6_hasGuest 4 = .ok (.iload_n 1, 1) := by decide +kernel
theorem dX6_hasGuest_5 : decode cX6_hasGuest 5 = .ok (.aload_n 0, 1) := by decide +kernel
theorem dX6_hasGuest_6 : decode cX6_hasGuest 6 = .ok (.getfield 34, 3) := by decide +kernel
theorem dX6_hasGuest_9 : decode cX6_hasGuest 9 = .ok (.if_icmp .ge 7, 3) := by decide +kernel
theorem dX6_hasGuest_12 : decode cX6_hasGuest 12 = .ok (.iconst 1, 1) := by decide +kernel
theorem dX6_hasGuest_13 : decode cX6_hasGuest 13 = .ok (.goto 4, 3) := by decide +kernel
theorem dX6_hasGuest_16 : decode cX6_hasGuest 16 = .ok (.iconst 0, 1) := by decide +kernel
theorem dX6_hasGuest_17 : decode cX6_hasGuest 17 = .ok (.ireturn, 1) := by decide +kernel
theorem dX6_hasAll_0 : decode cX6_hasAll 0 = .ok (.iload_n 1, 1) := by decide +kernel
theorem dX6_hasAll_1 : decode cX6_hasAll 1 = .ok (.aload_n 0, 1) := by decide +kernel
theorem dX6_hasAll_2 : decode cX6_hasAll 2 = .ok (.invokevirtual 51, 3) := by decide +kernel
theorem dX6_hasAll_5 : decode cX6_hasAll 5 = .ok (.iconst (-1), 1) := by decide +kernel
theorem dX6_hasAll_6 : decode cX6_hasAll 6 = .ok (.ixor, 1) := by decide +kernel
theorem dX6_hasAll_7 : decode cX6_hasAll 7 = .ok (.iand, 1) := by decide +kernel
theorem dX6_hasAll_8 : decode cX6_hasAll 8 = .ok (.ifCond .ne 7, 3) := by decide +kernel
theorem dX6_hasAll_11 : decode cX6_hasAll 11 = .ok (.iconst 1, 1) := by decide +kernel
theorem dX6_hasAll_12 : decode cX6_hasAll 12 = .ok (.goto 4, 3) := by decide +kernel
theorem dX6_hasAll_15 : decode cX6_hasAll 15 = .ok (.iconst 0, 1) := by decide +kernel
theorem dX6_hasAll_16 : decode cX6_hasAll 16 = .ok (.ireturn, 1) := by decide +kernel
theorem dX6_everyone_0 : decode cX6_everyone 0 = .ok (.iconst 1, 1) := by decide +kernel
theorem dX6_everyone_1 : decode cX6_everyone 1 = .ok (.aload_n 0, 1) := by decide +kernel
theorem dX6_everyone_2 : decode cX6_everyone 2 = .ok (.getfield 34, 3) := by decide +kernel
theorem dX6_everyone_5 : decode cX6_everyone 5 = .ok (.ishl, 1) := by decide +kernel
theorem dX6_everyone_6 : decode cX6_everyone 6 = .ok (.iconst 1, 1) := by decide +kernel
theorem dX6_everyone_7 : decode cX6_everyone 7 = .ok (.isub, 1) := by decide +kernel
theorem dX6_everyone_8 : decode cX6_everyone 8 = .ok (.ireturn, 1) := by decide +kernel
theorem dX6_allOfKind_0 : decode cX6_allOfKind 0 = .ok (.iconst 0, 1) := by decide +kernel
theorem dX6_allOfKind_1 : decode cX6_allOfKind 1 = .ok (.istore_n 2, 1) := by decide +kernel
theorem dX6_allOfKind_2 : decode cX6_allOfKind 2 = .ok (.iconst 0, 1) := by decide +kernel
theorem dX6_allOfKind_3 : decode cX6_allOfKind 3 = .ok (.istore_n 3, 1) := by decide +kernel
theorem dX6_allOfKind_4 : decode cX6_allOfKind 4 = .ok (.iload_n 3, 1) := by decide +kernel
theorem dX6_allOfKind_5 : decode cX6_allOfKind 5 = .ok (.aload_n 0, 1) := by decide +kernel
theorem dX6_allOfKind_6 : decode cX6_allOfKind 6 = .ok (.getfield 34, 3) := by decide +kernel
theorem dX6_allOfKind_9 : decode cX6_allOfKind 9 = .ok (.if_icmp .ge 25, 3) := by decide +kernel
theorem dX6_allOfKind_12 : decode cX6_allOfKind 12 = .ok (.aload_n 0, 1) := by decide +kernel
theorem dX6_allOfKind_13 : decode cX6_allOfKind 13 = .ok (.getfield 15, 3) := by decide +kernel
theorem dX6_allOfKind_16 : decode cX6_allOfKind 16 = .ok (.iload_n 3, 1) := by decide +kernel
theorem dX6_allOfKind_17 : decode cX6_allOfKind 17 = .ok (.iaload, 1) := by decide +kernel
theorem dX6_allOfKind_18 : decode cX6_allOfKind 18 = .ok (.iload_n 1, 1) := by decide +kernel
theorem dX6_allOfKind_19 : decode cX6_allOfKind 19 = .ok (.if_icmp .ne 9, 3) := by decide +kernel
theorem dX6_allOfKind_22 : decode cX6_allOfKind 22 = .ok (.iload_n 2, 1) := by decide +kernel
theorem dX6_allOfKind_23 : decode cX6_allOfKind 23 = .ok (.iconst 1, 1) := by decide +kernel
theorem dX6_allOfKind_24 : decode cX6_allOfKind 24 = .ok (.iload_n 3, 1) := by decide +kernel
theorem dX6_allOfKind_25 : decode cX6_allOfKind 25 = .ok (.ishl, 1) := by decide +kernel
theorem dX6_allOfKind_26 : decode cX6_allOfKind 26 = .ok (.ior, 1) := by decide +kernel
theorem dX6_allOfKind_27 : decode cX6_allOfKind 27 = .ok (.istore_n 2, 1) := by decide +kernel
theorem dX6_allOfKind_28 : decode cX6_allOfKind 28 = .ok (.iinc 3 1, 3) := by decide +kernel
theorem dX6_allOfKind_31 : decode cX6_allOfKind 31 = .ok (.goto (-27), 3) := by decide +kernel
theorem dX6_allOfKind_34 : decode cX6_allOfKind 34 = .ok (.iload_n 2, 1) := by decide +kernel
theorem dX6_allOfKind_35 : decode cX6_allOfKind 35 = .ok (.ireturn, 1) := by decide +kernel
theorem dX6_isA_0 : decode cX6_isA 0 = .ok (.iload_n 2, 1) := by decide +kernel
theorem dX6_isA_1 : decode cX6_isA 1 = .ok (.tableswitch 81 0 3 #[31, 33, 49, 65], 31) := by decide +kernel
theorem dX6_isA_32 : decode cX6_isA 32 = .ok (.iconst 1, 1) := by decide +kernel
theorem dX6_isA_33 : decode cX6_isA 33 = .ok (.ireturn, 1) := by decide +kernel
theorem dX6_isA_34 : decode cX6_isA 34 = .ok (.aload_n 0, 1) := by decide +kernel
theorem dX6_isA_35 : decode cX6_isA 35 = .ok (.getfield 15, 3) := by decide +kernel
theorem dX6_isA_38 : decode cX6_isA 38 = .ok (.iload_n 1, 1) := by decide +kernel
theorem dX6_isA_39 : decode cX6_isA 39 = .ok (.iaload, 1) := by decide +kernel
theorem dX6_isA_40 : decode cX6_isA 40 = .ok (.iconst 3, 1) := by decide +kernel
theorem dX6_isA_41 : decode cX6_isA 41 = .ok (.if_icmp .eq 7, 3) := by decide +kernel
theorem dX6_isA_44 : decode cX6_isA 44 = .ok (.iconst 1, 1) := by decide +kernel
theorem dX6_isA_45 : decode cX6_isA 45 = .ok (.goto 4, 3) := by decide +kernel
theorem dX6_isA_48 : decode cX6_isA 48 = .ok (.iconst 0, 1) := by decide +kernel
theorem dX6_isA_49 : decode cX6_isA 49 = .ok (.ireturn, 1) := by decide +kernel
theorem dX6_isA_50 : decode cX6_isA 50 = .ok (.aload_n 0, 1) := by decide +kernel
theorem dX6_isA_51 : decode cX6_isA 51 = .ok (.getfield 15, 3) := by decide +kernel
theorem dX6_isA_54 : decode cX6_isA 54 = .ok (.iload_n 1, 1) := by decide +kernel
theorem dX6_isA_55 : decode cX6_isA 55 = .ok (.iaload, 1) := by decide +kernel
theorem dX6_isA_56 : decode cX6_isA 56 = .ok (.iconst 1, 1) := by decide +kernel
theorem dX6_isA_57 : decode cX6_isA 57 = .ok (.if_icmp .ne 7, 3) := by decide +kernel
theorem dX6_isA_60 : decode cX6_isA 60 = .ok (.iconst 1, 1) := by decide +kernel
theorem dX6_isA_61 : decode cX6_isA 61 = .ok (.goto 4, 3) := by decide +kernel
theorem dX6_isA_64 : decode cX6_isA 64 = .ok (.iconst 0, 1) := by decide +kernel
theorem dX6_isA_65 : decode cX6_isA 65 = .ok (.ireturn, 1) := by decide +kernel
theorem dX6_isA_66 : decode cX6_isA 66 = .ok (.aload_n 0, 1) := by decide +kernel
theorem dX6_isA_67 : decode cX6_isA 67 = .ok (.getfield 15, 3) := by decide +kernel
theorem dX6_isA_70 : decode cX6_isA 70 = .ok (.iload_n 1, 1) := by decide +kernel
theorem dX6_isA_71 : decode cX6_isA 71 = .ok (.iaload, 1) := by decide +kernel
theorem dX6_isA_72 : decode cX6_isA 72 = .ok (.iconst 2, 1) := by decide +kernel
theorem dX6_isA_73 : decode cX6_isA 73 = .ok (.if_icmp .ne 7, 3) := by decide +kernel
theorem dX6_isA_76 : decode cX6_isA 76 = .ok (.iconst 1, 1) := by decide +kernel
theorem dX6_isA_77 : decode cX6_isA 77 = .ok (.goto 4, 3) := by decide +kernel
theorem dX6_isA_80 : decode cX6_isA 80 = .ok (.iconst 0, 1) := by decide +kernel
theorem dX6_isA_81 : decode cX6_isA 81 = .ok (.ireturn, 1) := by decide +kernel
theorem dX6_isA_82 : decode cX6_isA 82 = .ok (.aload_n 0, 1) := by decide +kernel
theorem dX6_isA_83 : decode cX6_isA 83 = .ok (.getfield 15, 3) := by decide +kernel
theorem dX6_isA_86 : decode cX6_isA 86 = .ok (.iload_n 1, 1) := by decide +kernel
theorem dX6_isA_87 : decode cX6_isA 87 = .ok (.iaload, 1) := by decide +kernel
theorem dX6_isA_88 : decode cX6_isA 88 = .ok (.iconst 3, 1) := by decide +kernel
theorem dX6_isA_89 : decode cX6_isA 89 = .ok (.if_icmp .ne 7, 3) := by decide +kernel
theorem dX6_isA_92 : decode cX6_isA 92 = .ok (.iconst 1, 1) := by decide +kernel
theorem dX6_isA_93 : decode cX6_isA 93 = .ok (.goto 4, 3) := by decide +kernel
theorem dX6_isA_96 : decode cX6_isA 96 = .ok (.iconst 0, 1) := by decide +kernel
theorem dX6_isA_97 : decode cX6_isA 97 = .ok (.ireturn, 1) := by decide +kernel
theorem dX6_ease_0 : decode cX6_ease 0 = .ok (.aload_n 0, 1) := by decide +kernel
theorem dX6_ease_1 : decode cX6_ease 1 = .ok (.getfield 15, 3) := by decide +kernel
theorem dX6_ease_4 : decode cX6_ease 4 = .ok (.iload_n 1, 1) := by decide +kernel
theorem dX6_ease_5 : decode cX6_ease 5 = .ok (.iaload, 1) := by decide +kernel
theorem dX6_ease_6 : decode cX6_ease 6 = .ok (.iconst 1, 1) := by decide +kernel
theorem dX6_ease_7 : decode cX6_ease 7 = .ok (.if_icmp .ne 7, 3) := by decide +kernel
theorem dX6_ease_10 : decode cX6_ease 10 = .ok (.iconst 1, 1) := by decide +kernel
theorem dX6_ease_11 : decode cX6_ease 11 = .ok (.goto 4, 3) := by decide +kernel
theorem dX6_ease_14 : decode cX6_ease 14 = .ok (.iconst 0, 1) := by decide +kernel
theorem dX6_ease_15 : decode cX6_ease 15 = .ok (.ireturn, 1) := by decide +kernel
theorem dX6_placeAfter_0 : decode cX6_placeAfter 0 = .ok (.iload_n 3, 1) := by decide +kernel
theorem dX6_placeAfter_1 : decode cX6_placeAfter 1 = .ok (.ifCond .ne 9, 3) := by decide +kernel
theorem dX6_placeAfter_4 : decode cX6_placeAfter 4 = .ok (.iload_n 1, 1) := by decide +kernel
theorem dX6_placeAfter_5 : decode cX6_placeAfter 5 = .ok (.iload_n 2, 1) := by decide +kernel
theorem dX6_placeAfter_6 : decode cX6_placeAfter 6 = .ok (.iadd, 1) := by decide +kernel
theorem dX6_placeAfter_7 : decode cX6_placeAfter 7 = .ok (.goto 6, 3) := by decide +kernel
theorem dX6_placeAfter_10 : decode cX6_placeAfter 10 = .ok (.iload_n 1, 1) := by decide +kernel
theorem dX6_placeAfter_11 : decode cX6_placeAfter 11 = .ok (.iload_n 2, 1) := by decide +kernel
theorem dX6_placeAfter_12 : decode cX6_placeAfter 12 = .ok (.isub, 1) := by decide +kernel
theorem dX6_placeAfter_13 : decode cX6_placeAfter 13 = .ok (.istore 4, 2) := by decide +kernel
theorem dX6_placeAfter_15 : decode cX6_placeAfter 15 = .ok (.aload_n 0, 1) := by decide +kernel
theorem dX6_placeAfter_16 : decode cX6_placeAfter 16 = .ok (.getfield 9, 3) := by decide +kernel
theorem dX6_placeAfter_19 : decode cX6_placeAfter 19 = .ok (.iconst 1, 1) := by decide +kernel
theorem dX6_placeAfter_20 : decode cX6_placeAfter 20 = .ok (.if_icmp .ge 7, 3) := by decide +kernel
theorem dX6_placeAfter_23 : decode cX6_placeAfter 23 = .ok (.iconst 0, 1) := by decide +kernel
theorem dX6_placeAfter_24 : decode cX6_placeAfter 24 = .ok (.goto 12, 3) := by decide +kernel
theorem dX6_placeAfter_27 : decode cX6_placeAfter 27 = .ok (.iload 4, 2) := by decide +kernel
theorem dX6_placeAfter_29 : decode cX6_placeAfter 29 = .ok (.aload_n 0, 1) := by decide +kernel
theorem dX6_placeAfter_30 : decode cX6_placeAfter 30 = .ok (.getfield 9, 3) := by decide +kernel
theorem dX6_placeAfter_33 : decode cX6_placeAfter 33 = .ok (.invokestatic 55, 3) := by decide +kernel
theorem dX6_placeAfter_36 : decode cX6_placeAfter 36 = .ok (.ireturn, 1) := by decide +kernel
theorem dX6_farthest_0 : decode cX6_farthest 0 = .ok (.aload_n 0, 1) := by decide +kernel
theorem dX6_farthest_1 : decode cX6_farthest 1 = .ok (.getfield 9, 3) := by decide +kernel
theorem dX6_farthest_4 : decode cX6_farthest 4 = .ok (.iconst 2, 1) := by decide +kernel
theorem dX6_farthest_5 : decode cX6_farthest 5 = .ok (.idiv, 1) := by decide +kernel
theorem dX6_farthest_6 : decode cX6_farthest 6 = .ok (.ireturn, 1) := by decide +kernel
theorem dX6_leastAt_0 : decode cX6_leastAt 0 = .ok (.iload_n 2, 1) := by decide +kernel
theorem dX6_leastAt_1 : decode cX6_leastAt 1 = .ok (.ifCond .lt 11, 3) := by decide +kernel
theorem dX6_leastAt_4 : decode cX6_leastAt 4 = .ok (.iload_n 2, 1) := by decide +kernel
theorem dX6_leastAt_5 : decode cX6_leastAt 5 = .ok (.aload_n 0, 1) := by decide +kernel
theorem dX6_leastAt_6 : decode cX6_leastAt 6 = .ok (.invokevirtual 61, 3) := by decide +kernel
theorem dX6_leastAt_9 : decode cX6_leastAt 9 = .ok (.if_icmp .le 5, 3) := by decide +kernel
theorem dX6_leastAt_12 : decode cX6_leastAt 12 = .ok (.iconst (-1), 1) := by decide +kernel
theorem dX6_leastAt_13 : decode cX6_leastAt 13 = .ok (.ireturn, 1) := by decide +kernel
theorem dX6_leastAt_14 : decode cX6_leastAt 14 = .ok (.iload_n 1, 1) := by decide +kernel
theorem dX6_leastAt_15 : decode cX6_leastAt 15 = .ok (.iload_n 2, 1) := by decide +kernel
theorem dX6_leastAt_16 : decode cX6_leastAt 16 = .ok (.iadd, 1) := by decide +kernel
theorem dX6_leastAt_17 : decode cX6_leastAt 17 = .ok (.aload_n 0, 1) := by decide +kernel
theorem dX6_leastAt_18 : decode cX6_leastAt 18 = .ok (.getfield 9, 3) := by decide +kernel
theorem dX6_leastAt_21 : decode cX6_leastAt 21 = .ok (.if_icmp .ge 9, 3) := by decide +kernel
theorem dX6_leastAt_24 : decode cX6_leastAt 24 = .ok (.iload_n 1, 1) := by decide +kernel
theorem dX6_leastAt_25 : decode cX6_leastAt 25 = .ok (.iload_n 2, 1) := by decide +kernel
theorem dX6_leastAt_26 : decode cX6_leastAt 26 = .ok (.iadd, 1) := by decide +kernel
theorem dX6_leastAt_27 : decode cX6_leastAt 27 = .ok (.goto 11, 3) := by decide +kernel
theorem dX6_leastAt_30 : decode cX6_leastAt 30 = .ok (.iload_n 1, 1) := by decide +kernel
theorem dX6_leastAt_31 : decode cX6_leastAt 31 = .ok (.iload_n 2, 1) := by decide +kernel
theorem dX6_leastAt_32 : decode cX6_leastAt 32 = .ok (.iadd, 1) := by decide +kernel
theorem dX6_leastAt_33 : decode cX6_leastAt 33 = .ok (.aload_n 0, 1) := by decide +kernel
