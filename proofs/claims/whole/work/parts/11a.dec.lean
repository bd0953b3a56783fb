theorem dX0_init_0 : decode cX0_init 0 = .ok (.aload_n 0, 1) := by decide +kernel
theorem dX0_init_1 : decode cX0_init 1 = .ok (.invokespecial 3, 3) := by decide +kernel
theorem dX0_init_4 : decode cX0_init 4 = .ok (.aload_n 0, 1) := by decide +kernel
theorem dX0_init_5 : decode cX0_init 5 = .ok (.iconst 1, 1) := by decide +kernel
theorem dX0_init_6 : decode cX0_init 6 = .ok (.putfield 9, 3) := by decide +kernel
theorem dX0_init_9 : decode cX0_init 9 = .ok (.aload_n 0, 1) := by decide +kernel
theorem dX0_init_10 : decode cX0_init 10 = .ok (.bipush 6, 2) := by decide +kernel
theorem dX0_init_12 : decode cX0_init 12 = .ok (.newarray .int, 2) := by decide +kernel
theorem dX0_init_14 : decode cX0_init 14 = .ok (.putfield 15, 3) := by decide +kernel
theorem dX0_init_17 : decode cX0_init 17 = .ok (.aload_n 0, 1) := by decide +kernel
theorem dX0_init_18 : decode cX0_init 18 = .ok (.bipush 6, 2) := by decide +kernel
theorem dX0_init_20 : decode cX0_init 20 = .ok (.newarray .int, 2) := by decide +kernel
theorem dX0_init_22 : decode cX0_init 22 = .ok (.putfield 19, 3) := by decide +kernel
theorem dX0_init_25 : decode cX0_init 25 = .ok (.aload_n 0, 1) := by decide +kernel
theorem dX0_init_26 : decode cX0_init 26 = .ok (.bipush 12, 2) := by decide +kernel
theorem dX0_init_28 : decode cX0_init 28 = .ok (.newarray .int, 2) := by decide +kernel
theorem dX0_init_30 : decode cX0_init 30 = .ok (.putfield 22, 3) := by decide +kernel
theorem dX0_init_33 : decode cX0_init 33 = .ok (.aload_n 0, 1) := by decide +kernel
theorem dX0_init_34 : decode cX0_init 34 = .ok (.bipush 6, 2) := by decide +kernel
theorem dX0_init_36 : decode cX0_init 36 = .ok (.newarray .int, 2) := by decide +kernel
theorem dX0_init_38 : decode cX0_init 38 = .ok (.putfield 25, 3) := by decide +kernel
theorem dX0_init_41 : decode cX0_init 41 = .ok (.aload_n 0, 1) := by decide +kernel
theorem dX0_init_42 : decode cX0_init 42 = .ok (.getfield 19, 3) := by decide +kernel
theorem dX0_init_45 : decode cX0_init 45 = .ok (.iconst (-1), 1) := by decide +kernel
theorem dX0_init_46 : decode cX0_init 46 = .ok (.invokestatic 28, 3) := by decide +kernel
theorem dX0_init_49 : decode cX0_init 49 = .ok (.aload_n 0, 1) := by decide +kernel
theorem dX0_init_50 : decode cX0_init 50 = .ok (.getfield 22, 3) := by decide +kernel
theorem dX0_init_53 : decode cX0_init 53 = .ok (.iconst (-1), 1) := by decide +kernel
theorem dX0_init_54 : decode cX0_init 54 = .ok (.invokestatic 28, 3) := by decide +kernel
theorem dX0_init_57 : decode cX0_init 57 = .ok (.return_, 1) := by decide +kernel
theorem dX0_begin_0 : decode cX0_begin 0 = .ok (.aload_n 0, 1) := by decide +kernel
theorem dX0_begin_1 : decode cX0_begin 1 = .ok (.iconst 0, 1) := by decide +kernel
theorem dX0_begin_2 : decode cX0_begin 2 = .ok (.putfield 34, 3) := by decide +kernel
theorem dX0_begin_5 : decode cX0_begin 5 = .ok (.aload_n 1, 1) := by decide +kernel
theorem dX0_begin_6 : decode cX0_begin 6 = .ok (.getfield 38, 3) := by decide +kernel
theorem dX0_begin_9 : decode cX0_begin 9 = .ok (.iconst 0, 1) := by decide +kernel
theorem dX0_begin_10 : decode cX0_begin 10 = .ok (.aload_n 0, 1) := by decide +kernel
theorem dX0_begin_11 : decode cX0_begin 11 = .ok (.getfield 15, 3) := by decide +kernel
theorem dX0_begin_14 : decode cX0_begin 14 = .ok (.iconst 0, 1) := by decide +kernel
theorem dX0_begin_15 : decode cX0_begin 15 = .ok (.bipush 6, 2) := by decide +kernel
theorem dX0_begin_17 : decode cX0_begin 17 = .ok (.invokestatic 43, 3) := by decide +kernel
theorem dX0_begin_20 : decode cX0_begin 20 = .ok (.aload_n 0, 1) := by decide +kernel
theorem dX0_begin_21 : decode cX0_begin 21 = .ok (.getfield 25, 3) := by decide +kernel
theorem dX0_begin_24 : decode cX0_begin 24 = .ok (.iconst 0, 1) := by decide +kernel
theorem dX0_begin_25 : decode cX0_begin 25 = .ok (.invokestatic 28, 3) := by decide +kernel
theorem dX0_begin_28 : decode cX0_begin 28 = .ok (.aload_n 0, 1) := by decide +kernel
theorem dX0_begin_29 : decode cX0_begin 29 = .ok (.invokevirtual 49, 3) := by decide +kernel
theorem dX0_begin_32 : decode cX0_begin 32 = .ok (.return_, 1) := by decide +kernel
theorem dX0_copyFrom_0 : decode cX0_copyFrom 0 = .ok (.aload_n 0, 1) := by decide +kernel
theorem dX0_copyFrom_1 : decode cX0_copyFrom 1 = .ok (.aload_n 1, 1) := by decide +kernel
theorem dX0_copyFrom_2 : decode cX0_copyFrom 2 = .ok (.getfield 34, 3) := by decide +kernel
theorem dX0_copyFrom_5 : decode cX0_copyFrom 5 = .ok (.putfield 34, 3) := by decide +kernel
theorem dX0_copyFrom_8 : decode cX0_copyFrom 8 = .ok (.aload_n 0, 1) := by decide +kernel
theorem dX0_copyFrom_9 : decode cX0_copyFrom 9 = .ok (.aload_n 1, 1) := by decide +kernel
theorem dX0_copyFrom_10 : decode cX0_copyFrom 10 = .ok (.getfield 9, 3) := by decide +kernel
theorem dX0_copyFrom_13 : decode cX0_copyFrom 13 = .ok (.putfield 9, 3) := by decide +kernel
theorem dX0_copyFrom_16 : decode cX0_copyFrom 16 = .ok (.aload_n 0, 1) := by decide +kernel
theorem dX0_copyFrom_17 : decode cX0_copyFrom 17 = .ok (.aload_n 1, 1) := by decide +kernel
theorem dX0_copyFrom_18 : decode cX0_copyFrom 18 = .ok (.getfield 52, 3) := by decide +kernel
theorem dX0_copyFrom_21 : decode cX0_copyFrom 21 = .ok (.putfield 52, 3) := by decide +kernel
theorem dX0_copyFrom_24 : decode cX0_copyFrom 24 = .ok (.aload_n 1, 1) := by decide +kernel
theorem dX0_copyFrom_25 : decode cX0_copyFrom 25 = .ok (.getfield 15, 3) := by decide +kernel
theorem dX0_copyFrom_28 : decode cX0_copyFrom 28 = .ok (.iconst 0, 1) := by decide +kernel
theorem dX0_copyFrom_29 : decode cX0_copyFrom 29 = .ok (.aload_n 0, 1) := by decide +kernel
theorem dX0_copyFrom_30 : decode cX0_copyFrom 30 = .ok (.getfield 15, 3) := by decide +kernel
theorem dX0_copyFrom_33 : decode cX0_copyFrom 33 = .ok (.iconst 0, 1) := by decide +kernel
theorem dX0_copyFrom_34 : decode cX0_copyFrom 34 = .ok (.bipush 6, 2) := by decide +kernel
theorem dX0_copyFrom_36 : decode cX0_copyFrom 36 = .ok (.invokestatic 43, 3) := by decide +kernel
theorem dX0_copyFrom_39 : decode cX0_copyFrom 39 = .ok (.aload_n 1, 1) := by decide +kernel
theorem dX0_copyFrom_40 : decode cX0_copyFrom 40 = .ok (.getfield 19, 3) := by decide +kernel
theorem dX0_copyFrom_43 : decode cX0_copyFrom 43 = .ok (.iconst 0, 1) := by decide +kernel
theorem dX0_copyFrom_44 : decode cX0_copyFrom 44 = .ok (.aload_n 0, 1) := by decide +kernel
theorem dX0_copyFrom_45 : decode cX0_copyFrom 45 = .ok (.getfield 19, 3) := by decide +kernel
theorem dX0_copyFrom_48 : decode cX0_copyFrom 48 = .ok (.iconst 0, 1) := by decide +kernel
theorem dX0_copyFrom_49 : decode cX0_copyFrom 49 = .ok (.bipush 6, 2) := by decide +kernel
theorem dX0_copyFrom_51 : decode cX0_copyFrom 51 = .ok (.invokestatic 43, 3) := by decide +kernel
theorem dX0_copyFrom_54 : decode cX0_copyFrom 54 = .ok (.aload_n 1, 1) := by decide +kernel
theorem dX0_copyFrom_55 : decode cX0_copyFrom 55 = .ok (.getfield 22, 3) := by decide +kernel
theorem dX0_copyFrom_58 : decode cX0_copyFrom 58 = .ok (.iconst 0, 1) := by decide +kernel
theorem dX0_copyFrom_59 : decode cX0_copyFrom 59 = .ok (.aload_n 0, 1) := by decide +kernel
theorem dX0_copyFrom_60 : decode cX0_copyFrom 60 = .ok (.getfield 22, 3) := by decide +kernel
theorem dX0_copyFrom_63 : decode cX0_copyFrom 63 = .ok (.iconst 0, 1) := by decide +kernel
theorem dX0_copyFrom_64 : decode cX0_copyFrom 64 = .ok (.bipush 12, 2) := by decide +kernel
theorem dX0_copyFrom_66 : decode cX0_copyFrom 66 = .ok (.invokestatic 43, 3) := by decide +kernel
theorem dX0_copyFrom_69 : decode cX0_copyFrom 69 = .ok (.aload_n 1, 1) := by decide +kernel
theorem dX0_copyFrom_70 : decode cX0_copyFrom 70 = .ok (.getfield 25, 3) := by decide +kernel
theorem dX0_copyFrom_73 : decode cX0_copyFrom 73 = .ok (.iconst 0, 1) := by decide +kernel
theorem dX0_copyFrom_74 : decode cX0_copyFrom 74 = .ok (.aload_n 0, 1) := by decide +kernel
theorem dX0_copyFrom_75 : decode cX0_copyFrom 75 = .ok (.getfield 25, 3) := by decide +kernel
theorem dX0_copyFrom_78 : decode cX0_copyFrom 78 = .ok (.iconst 0, 1) := by decide +kernel
theorem dX0_copyFrom_79 : decode cX0_copyFrom 79 = .ok (.bipush 6, 2) := by decide +kernel
theorem dX0_copyFrom_81 : decode cX0_copyFrom 81 = .ok (.invokestatic 43, 3) := by decide +kernel
theorem dX0_copyFrom_84 : decode cX0_copyFrom 84 = .ok (.return_, 1) := by decide +kernel
theorem dX0_whoIsAt_0 : decode cX0_whoIsAt 0 = .ok (.iconst 0, 1) := by decide +kernel
theorem dX0_whoIsAt_1 : decode cX0_whoIsAt 1 = .ok (.istore_n 3, 1) := by decide +kernel
theorem dX0_whoIsAt_2 : decode cX0_whoIsAt 2 = .ok (.iconst 0, 1) := by decide +kernel
theorem dX0_whoIsAt_3 : decode cX0_whoIsAt 3 = .ok (.istore 4, 2) := by decide +kernel
theorem dX0_whoIsAt_5 : decode cX0_whoIsAt 5 = .ok (.iload 4, 2) := by decide +kernel
theorem dX0_whoIsAt_7 : decode cX0_whoIsAt 7 = .ok (.iload_n 2, 1) := by decide +kernel
theorem dX0_whoIsAt_8 : decode cX0_whoIsAt 8 = .ok (.if_icmp .ge 27, 3) := by decide +kernel
theorem dX0_whoIsAt_11 : decode cX0_whoIsAt 11 = .ok (.aload_n 0, 1) := by decide +kernel
theorem dX0_whoIsAt_12 : decode cX0_whoIsAt 12 = .ok (.getfield 15, 3) := by decide +kernel
theorem dX0_whoIsAt_15 : decode cX0_whoIsAt 15 = .ok (.iload 4, 2) := by decide +kernel
theorem dX0_whoIsAt_17 : decode cX0_whoIsAt 17 = .ok (.iaload, 1) := by decide +kernel
theorem dX0_whoIsAt_18 : decode cX0_whoIsAt 18 = .ok (.iload_n 1, 1) := by decide +kernel
theorem dX0_whoIsAt_19 : decode cX0_whoIsAt 19 = .ok (.if_icmp .ne 10, 3) := by decide +kernel
theorem dX0_whoIsAt_22 : decode cX0_whoIsAt 22 = .ok (.iload_n 3, 1) := by decide +kernel
theorem dX0_whoIsAt_23 : decode cX0_whoIsAt 23 = .ok (.iconst 1, 1) := by decide +kernel
theorem dX0_whoIsAt_24 : decode cX0_whoIsAt 24 = .ok (.iload 4, 2) := by decide +kernel
theorem dX0_whoIsAt_26 : decode cX0_whoIsAt 26 = .ok (.ishl, 1) := by decide +kernel
theorem dX0_whoIsAt_27 : decode cX0_whoIsAt 27 = .ok (.ior, 1) := by decide +kernel
theorem dX0_whoIsAt_28 : decode cX0_whoIsAt 28 = .ok (.istore_n 3, 1) := by decide +kernel
theorem dX0_whoIsAt_29 : decode cX0_whoIsAt 29 = .ok (.iinc 4 1, 3) := by decide +kernel
theorem dX0_whoIsAt_32 : decode cX0_whoIsAt 32 = .ok (.goto (-27), 3) := by decide +kernel
theorem dX0_whoIsAt_35 : decode cX0_whoIsAt 35 = .ok (.iload_n 3, 1) := by decide +kernel
theorem dX0_whoIsAt_36 : decode cX0_whoIsAt 36 = .ok (.ireturn, 1) := by decide +kernel
theorem dX0_goOn_0 : decode cX0_goOn 0 = .ok (.aload_n 0, 1) := by decide +kernel
theorem dX0_goOn_1 : decode cX0_goOn 1 = .ok (.dup, 1) := by decide +kernel
theorem dX0_goOn_2 : decode cX0_goOn 2 = .ok (.getfield 34, 3) := by decide +kernel
theorem dX0_goOn_5 : decode cX0_goOn 5 = .ok (.iload_n 2, 1) := by decide +kernel
theorem dX0_goOn_6 : decode cX0_goOn 6 = .ok (.iadd, 1) := by decide +kernel
theorem dX0_goOn_7 : decode cX0_goOn 7 = .ok (.putfield 34, 3) := by decide +kernel
theorem dX0_goOn_10 : decode cX0_goOn 10 = .ok (.iconst 0, 1) := by decide +kernel
theorem dX0_goOn_11 : decode cX0_goOn 11 = .ok (.istore_n 3, 1) := by decide +kernel
theorem dX0_goOn_12 : decode cX0_goOn 12 = .ok (.iload_n 3, 1) := by decide +kernel
theorem dX0_goOn_13 : decode cX0_goOn 13 = .ok (.aload_n 1, 1) := by decide +kernel
theorem dX0_goOn_14 : decode cX0_goOn 14 = .ok (.getfield 55, 3) := by decide +kernel
theorem dX0_goOn_17 : decode cX0_goOn 17 = .ok (.if_icmp .ge 39, 3) := by decide +kernel
theorem dX0_goOn_20 : decode cX0_goOn 20 = .ok (.aload_n 0, 1) := by decide +kernel
theorem dX0_goOn_21 : decode cX0_goOn 21 = .ok (.getfield 15, 3) := by decide +kernel
theorem dX0_goOn_24 : decode cX0_goOn 24 = .ok (.iload_n 3, 1) := by decide +kernel
theorem dX0_goOn_25 : decode cX0_goOn 25 = .ok (.aload_n 1, 1) := by decide +kernel
theorem dX0_goOn_26 : decode cX0_goOn 26 = .ok (.aload_n 0, 1) := by decide +kernel
theorem dX0_goOn_27 : decode cX0_goOn 27 = .ok (.getfield 15, 3) := by decide +kernel
theorem dX0_goOn_30 : decode cX0_goOn 30 = .ok (.iload_n 3, 1) := by decide +kernel
theorem dX0_goOn_31 : decode cX0_goOn 31 = .ok (.iaload, 1) := by decide +kernel
theorem dX0_goOn_32 : decode cX0_goOn 32 = .ok (.aload_n 1, 1) := by decide +kernel
theorem dX0_goOn_33 : decode cX0_goOn 33 = .ok (.getfield 58, 3) := by decide +kernel
theorem dX0_goOn_36 : decode cX0_goOn 36 = .ok (.iload_n 3, 1) := by decide +kernel
theorem dX0_goOn_37 : decode cX0_goOn 37 = .ok (.iaload, 1) := by decide +kernel
theorem dX0_goOn_38 : decode cX0_goOn 38 = .ok (.iload_n 2, 1) := by decide +kernel
theorem dX0_goOn_39 : decode cX0_goOn 39 = .ok (.imul, 1) := by decide +kernel
theorem dX0_goOn_40 : decode cX0_goOn 40 = .ok (.aload_n 1, 1) := by decide +kernel
theorem dX0_goOn_41 : decode cX0_goOn 41 = .ok (.getfield 61, 3) := by decide +kernel
theorem dX0_goOn_44 : decode cX0_goOn 44 = .ok (.iload_n 3, 1) := by decide +kernel
theorem dX0_goOn_45 : decode cX0_goOn 45 = .ok (.iaload, 1) := by decide +kernel
theorem dX0_goOn_46 : decode cX0_goOn 46 = .ok (.invokevirtual 64, 3) := by decide +kernel
theorem dX0_goOn_49 : decode cX0_goOn 49 = .ok (.iastore, 1) := by decide +kernel
theorem dX0_goOn_50 : decode cX0_goOn 50 = .ok (.iinc 3 1, 3) := by decide +kernel
theorem dX0_goOn_53 : decode cX0_goOn 53 = .ok (.goto (-41), 3) := by decide +kernel
theorem dX0_goOn_56 : decode cX0_goOn 56 = .ok (.return_, 1) := by decide +kernel
theorem dX0_end_0 : decode cX0_end 0 = .ok (.aload_n 0, 1) := by decide +kernel
theorem dX0_end_1 : decode cX0_end 1 = .ok (.iconst 0, 1) := by decide +kernel
theorem dX0_end_2 : decode cX0_end 2 = .ok (.putfield 9, 3) := by decide +kernel
theorem dX0_end_5 : decode cX0_end 5 = .ok (.aload_n 0, 1) := by decide +kernel
theorem dX0_end_6 : decode cX0_end 6 = .ok (.iload_n 3, 1) := by decide +kernel
theorem dX0_end_7 : decode cX0_end 7 = .ok (.putfield 52, 3) := by decide +kernel
theorem dX0_end_10 : decode cX0_end 10 = .ok (.aload_n 2, 1) := by decide +kernel
theorem dX0_end_11 : decode cX0_end 11 = .ok (.getfield 68, 3) := by decide +kernel
theorem dX0_end_14 : decode cX0_end 14 = .ok (.iconst 0, 1) := by decide +kernel
theorem dX0_end_15 : decode cX0_end 15 = .ok (.aload_n 0, 1) := by decide +kernel
theorem dX0_end_16 : decode cX0_end 16 = .ok (.getfield 19, 3) := by decide +kernel
theorem dX0_end_19 : decode cX0_end 19 = .ok (.iconst 0, 1) := by decide +kernel
theorem dX0_end_20 : decode cX0_end 20 = .ok (.bipush 6, 2) := by decide +kernel
theorem dX0_end_22 : decode cX0_end 22 = .ok (.invokestatic 43, 3) := by decide +kernel
theorem dX0_end_25 : decode cX0_end 25 = .ok (.aload_n 2, 1) := by decide +kernel
theorem dX0_end_26 : decode cX0_end 26 = .ok (.getfield 71, 3) := by decide +kernel
theorem dX0_end_29 : decode cX0_end 29 = .ok (.iconst 0, 1) := by decide +kernel
theorem dX0_end_30 : decode cX0_end 30 = .ok (.aload_n 0, 1) := by decide +kernel
theorem dX0_end_31 : decode cX0_end 31 = .ok (.getfield 22, 3) := by decide +kernel
theorem dX0_end_34 : decode cX0_end 34 = .ok (.iconst 0, 1) := by decide +kernel
theorem dX0_end_35 : decode cX0_end 35 = .ok (.bipush 12, 2) := by decide +kernel
theorem dX0_end_37 : decode cX0_end 37 = .ok (.invokestatic 43, 3) := by decide +kernel
theorem dX0_end_40 : decode cX0_end 40 = .ok (.iload_n 3, 1) := by decide +kernel
theorem dX0_end_41 : decode cX0_end 41 = .ok (.invokestatic 72, 3) := by decide +kernel
theorem dX0_end_44 : decode cX0_end 44 = .ok (.istore 4, 2) := by decide +kernel
theorem dX0_end_46 : decode cX0_end 46 = .ok (.iload 4, 2) := by decide +kernel
theorem dX0_end_48 : decode cX0_end 48 = .ok (.ifCond .ne 7, 3) := by decide +kernel
theorem dX0_end_51 : decode cX0_end 51 = .ok (.iconst 0, 1) := by decide +kernel
theorem dX0_end_52 : decode cX0_end 52 = .ok (.goto 10, 3) := by decide +kernel
theorem dX0_end_55 : decode cX0_end 55 = .ok (.aload_n 1, 1) := by decide +kernel
theorem dX0_end_56 : decode cX0_end 56 = .ok (.invokevirtual 78, 3) := by decide +kernel
theorem dX0_end_59 : decode cX0_end 59 = .ok (.iload 4, 2) := by decide +kernel
theorem dX0_end_61 : decode cX0_end 61 = .ok (.idiv, 1) := by decide +kernel
theorem dX0_end_62 : decode cX0_end 62 = .ok (.istore 5, 2) := by decide +kernel
theorem dX0_end_64 : decode cX0_end 64 = .ok (.iconst 0, 1) := by decide +kernel
theorem dX0_end_65 : decode cX0_end 65 = .ok (.istore 6, 2) := by decide +kernel
theorem dX0_end_67 : decode cX0_end 67 = .ok (.iload 6, 2) := by decide +kernel
theorem dX0_end_69 : decode cX0_end 69 = .ok (.aload_n 1, 1) := by decide +kernel
theorem dX0_end_70 : decode cX0_end 70 = .ok (.getfield 55, 3) := by decide +kernel
theorem dX0_end_73 : decode cX0_end 73 = .ok (.if_icmp .ge 55, 3) := by decide +kernel
theorem dX0_end_76 : decode cX0_end 76 = .ok (.aload_n 0, 1) := by decide +kernel
theorem dX0_end_77 : decode cX0_end 77 = .ok (.getfield 19, 3) := by decide +kernel
theorem dX0_end_80 : decode cX0_end 80 = .ok (.iload 6, 2) := by decide +kernel
theorem dX0_end_82 : decode cX0_end 82 = .ok (.iaload, 1) := by decide +kernel
theorem dX0_end_83 : decode cX0_end 83 = .ok (.iconst (-1), 1) := by decide +kernel
theorem dX0_end_84 : decode cX0_end 84 = .ok (.if_icmp .eq 17, 3) := by decide +kernel
theorem dX0_end_87 : decode cX0_end 87 = .ok (.aload_n 0, 1) := by decide +kernel
theorem dX0_end_88 : decode cX0_end 88 = .ok (.getfield 15, 3) := by decide +kernel
theorem dX0_end_91 : decode cX0_end 91 = .ok (.iload 6, 2) := by decide +kernel
theorem dX0_end_93 : decode cX0_end 93 = .ok (.aload_n 0, 1) := by decide +kernel
theorem dX0_end_94 : decode cX0_end 94 = .ok (.getfield 19, 3) := by decide +kernel
theorem dX0_end_97 : decode cX0_end 97 = .ok (.iload 6, 2) := by decide +kernel
theorem dX0_end_99 : decode cX0_end 99 = .ok (.iaload, 1) := by decide +kernel
theorem dX0_end_100 : decode cX0_end 100 = .ok (.iastore, 1) := by decide +kernel
theorem dX0_end_101 : decode cX0_end 101 = .ok (.iload_n 3, 1) := by decide +kernel
theorem dX0_end_102 : decode cX0_end 102 = .ok (.iload 6, 2) := by decide +kernel
theorem dX0_end_104 : decode cX0_end 104 = .ok (.invokestatic 82, 3) := by decide +kernel
theorem dX0_end_107 : decode cX0_end 107 = .ok (.ifCond .eq 15, 3) := by decide +kernel
theorem dX0_end_110 : decode cX0_end 110 = .ok (.aload_n 0, 1) := by decide +kernel
theorem dX0_end_111 : decode cX0_end 111 = .ok (.getfield 25, 3) := by decide +kernel
theorem dX0_end_114 : decode cX0_end 114 = .ok (.iload 6, 2) := by decide +kernel
theorem dX0_end_116 : decode cX0_end 116 = .ok (.dup2, 1) := by decide +kernel
theorem dX0_end_117 : decode cX0_end 117 = .ok (.iaload, 1) := by decide +kernel
theorem dX0_end_118 : decode cX0_end 118 = .ok (.iload 5, 2) := by decide +kernel
theorem dX0_end_120 : decode cX0_end 120 = .ok (.iadd, 1) := by decide +kernel
theorem dX0_end_121 : decode cX0_end 121 = .ok (.iastore, 1) := by decide +kernel
theorem dX0_end_122 : decode cX0_end 122 = .ok (.iinc 6 1, 3) := by decide +kernel
theorem dX0_end_125 : decode cX0_end 125 = .ok (.goto (-58), 3) := by decide +kernel
theorem dX0_end_128 : decode cX0_end 128 = .ok (.return_, 1) := by decide +kernel
theorem dX0_getUp_0 : decode cX0_getUp 0 = .ok (.aload_n 0, 1) := by decide +kernel
theorem dX0_getUp_1 : decode cX0_getUp 1 = .ok (.iconst 1, 1) := by decide +kernel
theorem dX0_getUp_2 : decode cX0_getUp 2 = .ok (.putfield 9, 3) := by decide +kernel
theorem dX0_getUp_5 : decode cX0_getUp 5 = .ok (.aload_n 0, 1) := by decide +kernel
theorem dX0_getUp_6 : decode cX0_getUp 6 = .ok (.iconst 0, 1) := by decide +kernel
theorem dX0_getUp_7 : decode cX0_getUp 7 = .ok (.putfield 52, 3) := by decide +kernel
theorem dX0_getUp_10 : decode cX0_getUp 10 = .ok (.aload_n 0, 1) := by decide +kernel
theorem dX0_getUp_11 : decode cX0_getUp 11 = .ok (.getfield 19, 3) := by decide +kernel
theorem dX0_getUp_14 : decode cX0_getUp 14 = .ok (.iconst (-1), 1) := by decide +kernel
theorem dX0_getUp_15 : decode cX0_getUp 15 = .ok (.invokestatic 28, 3) := by decide +kernel
theorem dX0_getUp_18 : decode cX0_getUp 18 = .ok (.aload_n 0, 1) := by decide +kernel
theorem dX0_getUp_19 : decode cX0_getUp 19 = .ok (.getfield 22, 3) := by decide +kernel
theorem dX0_getUp_22 : decode cX0_getUp 22 = .ok (.iconst (-1), 1) := by decide +kernel
theorem dX0_getUp_23 : decode cX0_getUp 23 = .ok (.invokestatic 28, 3) := by decide +kernel
theorem dX0_getUp_26 : decode cX0_getUp 26 = .ok (.return_, 1) := by decide +kernel
theorem dX1_init_0 : decode cX1_init 0 = .ok (.aload_n 0, 1) := by decide +kernel
theorem dX1_init_1 : decode cX1_init 1 = .ok (.invokespecial 3, 3) := by decide +kernel
theorem dX1_init_4 : decode cX1_init 4 = .ok (.aload_n 0, 1) := by decide +kernel
theorem dX1_init_5 : decode cX1_init 5 = .ok (.sipush 384, 3) := by decide +kernel
theorem dX1_init_8 : decode cX1_init 8 = .ok (.newarray .int, 2) := by decide +kernel
theorem dX1_init_10 : decode cX1_init 10 = .ok (.putfield 9, 3) := by decide +kernel
theorem dX1_init_13 : decode cX1_init 13 = .ok (.aload_n 0, 1) := by decide +kernel
theorem dX1_init_14 : decode cX1_init 14 = .ok (.aload_n 1, 1) := by decide +kernel
theorem dX1_init_15 : decode cX1_init 15 = .ok (.putfield 15, 3) := by decide +kernel
theorem dX1_init_18 : decode cX1_init 18 = .ok (.aload_n 0, 1) := by decide +kernel
theorem dX1_init_19 : decode cX1_init 19 = .ok (.aload_n 2, 1) := by decide +kernel
theorem dX1_init_20 : decode cX1_init 20 = .ok (.putfield 19, 3) := by decide +kernel
theorem dX1_init_23 : decode cX1_init 23 = .ok (.return_, 1) := by decide +kernel
theorem dX1_findSurest_0 : decode cX1_findSurest 0 = .ok (.aload_n 0, 1) := by decide +kernel
theorem dX1_findSurest_1 : decode cX1_findSurest 1 = .ok (.getfield 19, 3) := by decide +kernel
theorem dX1_findSurest_4 : decode cX1_findSurest 4 = .ok (.invokevirtual 23, 3) := by decide +kernel
theorem dX1_findSurest_7 : decode cX1_findSurest 7 = .ok (.aload_n 0, 1) := by decide +kernel
theorem dX1_findSurest_8 : decode cX1_findSurest 8 = .ok (.bipush 101, 2) := by decide +kernel
theorem dX1_findSurest_10 : decode cX1_findSurest 10 = .ok (.putfield 28, 3) := by decide +kernel
theorem dX1_findSurest_13 : decode cX1_findSurest 13 = .ok (.iconst 0, 1) := by decide +kernel
theorem dX1_findSurest_14 : decode cX1_findSurest 14 = .ok (.istore 4, 2) := by decide +kernel
theorem dX1_findSurest_16 : decode cX1_findSurest 16 = .ok (.iload 4, 2) := by decide +kernel
theorem dX1_findSurest_18 : decode cX1_findSurest 18 = .ok (.iconst 3, 1) := by decide +kernel
theorem dX1_findSurest_19 : decode cX1_findSurest 19 = .ok (.if_icmp .gt 96, 3) := by decide +kernel
theorem dX1_findSurest_22 : decode cX1_findSurest 22 = .ok (.iconst 0, 1) := by decide +kernel
theorem dX1_findSurest_23 : decode cX1_findSurest 23 = .ok (.istore 5, 2) := by decide +kernel
theorem dX1_findSurest_25 : decode cX1_findSurest 25 = .ok (.iload 5, 2) := by decide +kernel
theorem dX1_findSurest_27 : decode cX1_findSurest 27 = .ok (.iconst 1, 1) := by decide +kernel
theorem dX1_findSurest_28 : decode cX1_findSurest 28 = .ok (.if_icmp .gt 81, 3) := by decide +kernel
theorem dX1_findSurest_31 : decode cX1_findSurest 31 = .ok (.aload_n 0, 1) := by decide +kernel
theorem dX1_findSurest_32 : decode cX1_findSurest 32 = .ok (.getfield 19, 3) := by decide +kernel
theorem dX1_findSurest_35 : decode cX1_findSurest 35 = .ok (.getfield 32, 3) := by decide +kernel
theorem dX1_findSurest_38 : decode cX1_findSurest 38 = .ok (.iload_n 1, 1) := by decide +kernel
theorem dX1_findSurest_39 : decode cX1_findSurest 39 = .ok (.iload 4, 2) := by decide +kernel
theorem dX1_findSurest_41 : decode cX1_findSurest 41 = .ok (.iastore, 1) := by decide +kernel
theorem dX1_findSurest_42 : decode cX1_findSurest 42 = .ok (.aload_n 0, 1) := by decide +kernel
theorem dX1_findSurest_43 : decode cX1_findSurest 43 = .ok (.getfield 19, 3) := by decide +kernel
theorem dX1_findSurest_46 : decode cX1_findSurest 46 = .ok (.getfield 35, 3) := by decide +kernel
theorem dX1_findSurest_49 : decode cX1_findSurest 49 = .ok (.iload_n 1, 1) := by decide +kernel
theorem dX1_findSurest_50 : decode cX1_findSurest 50 = .ok (.iload 5, 2) := by decide +kernel
theorem dX1_findSurest_52 : decode cX1_findSurest 52 = .ok (.iastore, 1) := by decide +kernel
theorem dX1_findSurest_53 : decode cX1_findSurest 53 = .ok (.aload_n 0, 1) := by decide +kernel
theorem dX1_findSurest_54 : decode cX1_findSurest 54 = .ok (.getfield 19, 3) := by decide +kernel
theorem dX1_findSurest_57 : decode cX1_findSurest 57 = .ok (.iload_n 2, 1) := by decide +kernel
theorem dX1_findSurest_58 : decode cX1_findSurest 58 = .ok (.iload_n 3, 1) := by decide +kernel
theorem dX1_findSurest_59 : decode cX1_findSurest 59 = .ok (.invokevirtual 38, 3) := by decide +kernel
theorem dX1_findSurest_62 : decode cX1_findSurest 62 = .ok (.aload_n 0, 1) := by decide +kernel
theorem dX1_findSurest_63 : decode cX1_findSurest 63 = .ok (.getfield 19, 3) := by decide +kernel
theorem dX1_findSurest_66 : decode cX1_findSurest 66 = .ok (.getfield 42, 3) := by decide +kernel
theorem dX1_findSurest_69 : decode cX1_findSurest 69 = .ok (.iload_n 1, 1) := by decide +kernel
theorem dX1_findSurest_70 : decode cX1_findSurest 70 = .ok (.iaload, 1) := by decide +kernel
theorem dX1_findSurest_71 : decode cX1_findSurest 71 = .ok (.aload_n 0, 1) := by decide +kernel
theorem dX1_findSurest_72 : decode cX1_findSurest 72 = .ok (.getfield 28, 3) := by decide +kernel
theorem dX1_findSurest_75 : decode cX1_findSurest 75 = .ok (.if_icmp .ge 28, 3) := by decide +kernel
theorem dX1_findSurest_78 : decode cX1_findSurest 78 = .ok (.aload_n 0, 1) := by decide +kernel
theorem dX1_findSurest_79 : decode cX1_findSurest 79 = .ok (.aload_n 0, 1) := by decide +kernel
theorem dX1_findSurest_80 : decode cX1_findSurest 80 = .ok (.getfield 19, 3) := by decide +kernel
theorem dX1_findSurest_83 : decode cX1_findSurest 83 = .ok (.getfield 42, 3) := by decide +kernel
theorem dX1_findSurest_86 : decode cX1_findSurest 86 = .ok (.iload_n 1, 1) := by decide +kernel
theorem dX1_findSurest_87 : decode cX1_findSurest 87 = .ok (.iaload, 1) := by decide +kernel
theorem dX1_findSurest_88 : decode cX1_findSurest 88 = .ok (.putfield 28, 3) := by decide +kernel
theorem dX1_findSurest_91 : decode cX1_findSurest 91 = .ok (.aload_n 0, 1) := by decide +kernel
theorem dX1_findSurest_92 : decode cX1_findSurest 92 = .ok (.iload 4, 2) := by decide +kernel
theorem dX1_findSurest_94 : decode cX1_findSurest 94 = .ok (.putfield 45, 3) := by decide +kernel
theorem dX1_findSurest_97 : decode cX1_findSurest 97 = .ok (.aload_n 0, 1) := by decide +kernel
theorem dX1_findSurest_98 : decode cX1_findSurest 98 = .ok (.iload 5, 2) := by decide +kernel
theorem dX1_findSurest_100 : decode cX1_findSurest 100 = .ok (.putfield 48, 3) := by decide +kernel
theorem dX1_findSurest_103 : decode cX1_findSurest 103 = .ok (.iinc 5 1, 3) := by decide +kernel
theorem dX1_findSurest_106 : decode cX1_findSurest 106 = .ok (.goto (-81), 3) := by decide +kernel
theorem dX1_findSurest_109 : decode cX1_findSurest 109 = .ok (.iinc 4 1, 3) := by decide +kernel
theorem dX1_findSurest_112 : decode cX1_findSurest 112 = .ok (.goto (-96), 3) := by decide +kernel
theorem dX1_findSurest_115 : decode cX1_findSurest 115 = .ok (.return_, 1) := by decide +kernel
theorem dX1_findStill_0 : decode cX1_findStill 0 = .ok (.aload_n 0, 1) := by decide +kernel
theorem dX1_findStill_1 : decode cX1_findStill 1 = .ok (.getfield 19, 3) := by decide +kernel
theorem dX1_findStill_4 : decode cX1_findStill 4 = .ok (.invokevirtual 23, 3) := by decide +kernel
theorem dX1_findStill_7 : decode cX1_findStill 7 = .ok (.iconst 0, 1) := by decide +kernel
theorem dX1_findStill_8 : decode cX1_findStill 8 = .ok (.istore_n 3, 1) := by decide +kernel
theorem dX1_findStill_9 : decode cX1_findStill 9 = .ok (.iload_n 3, 1) := by decide +kernel
theorem dX1_findStill_10 : decode cX1_findStill 10 = .ok (.aload_n 0, 1) := by decide +kernel
theorem dX1_findStill_11 : decode cX1_findStill 11 = .ok (.getfield 15, 3) := by decide +kernel
theorem dX1_findStill_14 : decode cX1_findStill 14 = .ok (.invokevirtual 51, 3) := by decide +kernel
theorem dX1_findStill_17 : decode cX1_findStill 17 = .ok (.if_icmp .gt 76, 3) := by decide +kernel
theorem dX1_findStill_20 : decode cX1_findStill 20 = .ok (.iconst 0, 1) := by decide +kernel
theorem dX1_findStill_21 : decode cX1_findStill 21 = .ok (.istore 4, 2) := by decide +kernel
theorem dX1_findStill_23 : decode cX1_findStill 23 = .ok (.iload 4, 2) := by decide +kernel
theorem dX1_findStill_25 : decode cX1_findStill 25 = .ok (.aload_n 0, 1) := by decide +kernel
theorem dX1_findStill_26 : decode cX1_findStill 26 = .ok (.getfield 15, 3) := by decide +kernel
theorem dX1_findStill_29 : decode cX1_findStill 29 = .ok (.getfield 57, 3) := by decide +kernel
theorem dX1_findStill_32 : decode cX1_findStill 32 = .ok (.if_icmp .ge 25, 3) := by decide +kernel
theorem dX1_findStill_35 : decode cX1_findStill 35 = .ok (.aload_n 0, 1) := by decide +kernel
theorem dX1_findStill_36 : decode cX1_findStill 36 = .ok (.getfield 19, 3) := by decide +kernel
theorem dX1_findStill_39 : decode cX1_findStill 39 = .ok (.getfield 32, 3) := by decide +kernel
theorem dX1_findStill_42 : decode cX1_findStill 42 = .ok (.iload 4, 2) := by decide +kernel
theorem dX1_findStill_44 : decode cX1_findStill 44 = .ok (.iload_n 3, 1) := by decide +kernel
theorem dX1_findStill_45 : decode cX1_findStill 45 = .ok (.iload 4, 2) := by decide +kernel
theorem dX1_findStill_47 : decode cX1_findStill 47 = .ok (.ishr, 1) := by decide +kernel
theorem dX1_findStill_48 : decode cX1_findStill 48 = .ok (.iconst 1, 1) := by decide +kernel
theorem dX1_findStill_49 : decode cX1_findStill 49 = .ok (.iand, 1) := by decide +kernel
theorem dX1_findStill_50 : decode cX1_findStill 50 = .ok (.iastore, 1) := by decide +kernel
theorem dX1_findStill_51 : decode cX1_findStill 51 = .ok (.iinc 4 1, 3) := by decide +kernel
theorem dX1_findStill_54 : decode cX1_findStill 54 = .ok (.goto (-31), 3) := by decide +kernel
theorem dX1_findStill_57 : decode cX1_findStill 57 = .ok (.aload_n 0, 1) := by decide +kernel
theorem dX1_findStill_58 : decode cX1_findStill 58 = .ok (.getfield 19, 3) := by decide +kernel
theorem dX1_findStill_61 : decode cX1_findStill 61 = .ok (.iload_n 1, 1) := by decide +kernel
theorem dX1_findStill_62 : decode cX1_findStill 62 = .ok (.iload_n 2, 1) := by decide +kernel
theorem dX1_findStill_63 : decode cX1_findStill 63 = .ok (.invokevirtual 38, 3) := by decide +kernel
theorem dX1_findStill_66 : decode cX1_findStill 66 = .ok (.aload_n 0, 1) := by decide +kernel
theorem dX1_findStill_67 : decode cX1_findStill 67 = .ok (.getfield 19, 3) := by decide +kernel
theorem dX1_findStill_70 : decode cX1_findStill 70 = .ok (.getfield 42, 3) := by decide +kernel
theorem dX1_findStill_73 : decode cX1_findStill 73 = .ok (.iconst 0, 1) := by decide +kernel
theorem dX1_findStill_74 : decode cX1_findStill 74 = .ok (.aload_n 0, 1) := by decide +kernel
theorem dX1_findStill_75 : decode cX1_findStill 75 = .ok (.getfield 9, 3) := by decide +kernel
theorem dX1_findStill_78 : decode cX1_findStill 78 = .ok (.iload_n 3, 1) := by decide +kernel
theorem dX1_findStill_79 : decode cX1_findStill 79 = .ok (.bipush 6, 2) := by decide +kernel
theorem dX1_findStill_81 : decode cX1_findStill 81 = .ok (.imul, 1) := by decide +kernel
theorem dX1_findStill_82 : decode cX1_findStill 82 = .ok (.bipush 6, 2) := by decide +kernel
theorem dX1_findStill_84 : decode cX1_findStill 84 = .ok (.invokestatic 60, 3) := by decide +kernel
theorem dX1_findStill_87 : decode cX1_findStill 87 = .ok (.iinc 3 1, 3) := by decide +kernel
theorem dX1_findStill_90 : decode cX1_findStill 90 = .ok (.goto (-81), 3) := by decide +kernel
theorem dX1_findStill_93 : decode cX1_findStill 93 = .ok (.aload_n 0, 1) := by decide +kernel
theorem dX1_findStill_94 : decode cX1_findStill 94 = .ok (.iconst 0, 1) := by decide +kernel
theorem dX1_findStill_95 : decode cX1_findStill 95 = .ok (.putfield 28, 3) := by decide +kernel
theorem dX1_findStill_98 : decode cX1_findStill 98 = .ok (.aload_n 0, 1) := by decide +kernel
theorem dX1_findStill_99 : decode cX1_findStill 99 = .ok (.iconst (-1), 1) := by decide +kernel
theorem dX1_findStill_100 : decode cX1_findStill 100 = .ok (.putfield 66, 3) := by decide +kernel
theorem dX1_findStill_103 : decode cX1_findStill 103 = .ok (.iconst 0, 1) := by decide +kernel
theorem dX1_findStill_104 : decode cX1_findStill 104 = .ok (.istore_n 3, 1) := by decide +kernel
theorem dX1_findStill_105 : decode cX1_findStill 105 = .ok (.iload_n 3, 1) := by decide +kernel
theorem dX1_findStill_106 : decode cX1_findStill 106 = .ok (.aload_n 0, 1) := by decide +kernel
theorem dX1_findStill_107 : decode cX1_findStill 107 = .ok (.getfield 15, 3) := by decide +kernel
theorem dX1_findStill_110 : decode cX1_findStill 110 = .ok (.invokevirtual 51, 3) := by decide +kernel
theorem dX1_findStill_113 : decode cX1_findStill 113 = .ok (.if_icmp .gt 47, 3) := by decide +kernel
theorem dX1_findStill_116 : decode cX1_findStill 116 = .ok (.aload_n 0, 1) := by decide +kernel
theorem dX1_findStill_117 : decode cX1_findStill 117 = .ok (.iload_n 3, 1) := by decide +kernel
theorem dX1_findStill_118 : decode cX1_findStill 118 = .ok (.invokevirtual 69, 3) := by decide +kernel
theorem dX1_findStill_121 : decode cX1_findStill 121 = .ok (.ifCond .eq 33, 3) := by decide +kernel
theorem dX1_findStill_124 : decode cX1_findStill 124 = .ok (.aload_n 0, 1) := by decide +kernel
theorem dX1_findStill_125 : decode cX1_findStill 125 = .ok (.dup, 1) := by decide +kernel
theorem dX1_findStill_126 : decode cX1_findStill 126 = .ok (.getfield 28, 3) := by decide +kernel
theorem dX1_findStill_129 : decode cX1_findStill 129 = .ok (.iconst 1, 1) := by decide +kernel
theorem dX1_findStill_130 : decode cX1_findStill 130 = .ok (.iadd, 1) := by decide +kernel
theorem dX1_findStill_131 : decode cX1_findStill 131 = .ok (.putfield 28, 3) := by decide +kernel
theorem dX1_findStill_134 : decode cX1_findStill 134 = .ok (.aload_n 0, 1) := by decide +kernel
theorem dX1_findStill_135 : decode cX1_findStill 135 = .ok (.aload_n 0, 1) := by decide +kernel
theorem dX1_findStill_136 : decode cX1_findStill 136 = .ok (.getfield 66, 3) := by decide +kernel
theorem dX1_findStill_139 : decode cX1_findStill 139 = .ok (.iconst (-1), 1) := by decide +kernel
theorem dX1_findStill_140 : decode cX1_findStill 140 = .ok (.if_icmp .ne 7, 3) := by decide +kernel
theorem dX1_findStill_143 : decode cX1_findStill 143 = .ok (.iload_n 3, 1) := by decide +kernel
theorem dX1_findStill_144 : decode cX1_findStill 144 = .ok (.goto 7, 3) := by decide +kernel
theorem dX1_findStill_147 : decode cX1_findStill 147 = .ok (.aload_n 0, 1) := by decide +kernel
theorem dX1_findStill_148 : decode cX1_findStill 148 = .ok (.getfield 66, 3) := by decide +kernel
theorem dX1_findStill_151 : decode cX1_findStill 151 = .ok (.putfield 66, 3) := by decide +kernel
theorem dX1_findStill_154 : decode cX1_findStill 154 = .ok (.iinc 3 1, 3) := by decide +kernel
theorem dX1_findStill_157 : decode cX1_findStill 157 = .ok (.goto (-52), 3) := by decide +kernel
theorem dX1_findStill_160 : decode cX1_findStill 160 = .ok (.return_, 1) := by decide +kernel
theorem dX1_nobodyWouldChange_0 : decode cX1_nobodyWouldChange 0 = .ok (.iconst 0, 1) := by decide +kernel
theorem dX1_nobodyWouldChange_1 : decode cX1_nobodyWouldChange 1 = .ok (.istore_n 2, 1) := by decide +kernel
theorem dX1_nobodyWouldChange_2 : decode cX1_nobodyWouldChange 2 = .ok (.iload_n 2, 1) := by decide +kernel
theorem dX1_nobodyWouldChange_3 : decode cX1_nobodyWouldChange 3 = .ok (.aload_n 0, 1) := by decide +kernel
theorem dX1_nobodyWouldChange_4 : decode cX1_nobodyWouldChange 4 = .ok (.getfield 15, 3) := by decide +kernel
theorem dX1_nobodyWouldChange_7 : decode cX1_nobodyWouldChange 7 = .ok (.getfield 57, 3) := by decide +kernel
theorem dX1_nobodyWouldChange_10 : decode cX1_nobodyWouldChange 10 = .ok (.if_icmp .ge 42, 3) := by decide +kernel
theorem dX1_nobodyWouldChange_13 : decode cX1_nobodyWouldChange 13 = .ok (.iload_n 1, 1) := by decide +kernel
theorem dX1_nobodyWouldChange_14 : decode cX1_nobodyWouldChange 14 = .ok (.iconst 1, 1) := by decide +kernel
theorem dX1_nobodyWouldChange_15 : decode cX1_nobodyWouldChange 15 = .ok (.iload_n 2, 1) := by decide +kernel
theorem dX1_nobodyWouldChange_16 : decode cX1_nobodyWouldChange 16 = .ok (.ishl, 1) := by decide +kernel
theorem dX1_nobodyWouldChange_17 : decode cX1_nobodyWouldChange 17 = .ok (.ixor, 1) := by decide +kernel
theorem dX1_nobodyWouldChange_18 : decode cX1_nobodyWouldChange 18 = .ok (.istore_n 3, 1) := by decide +kernel
theorem dX1_nobodyWouldChange_19 : decode cX1_nobodyWouldChange 19 = .ok (.aload_n 0, 1) := by decide +kernel
theorem dX1_nobodyWouldChange_20 : decode cX1_nobodyWouldChange 20 = .ok (.getfield 9, 3) := by decide +kernel
theorem dX1_nobodyWouldChange_23 : decode cX1_nobodyWouldChange 23 = .ok (.iload_n 3, 1) := by decide +kernel
theorem dX1_nobodyWouldChange_24 : decode cX1_nobodyWouldChange 24 = .ok (.bipush 6, 2) := by decide +kernel
theorem dX1_nobodyWouldChange_26 : decode cX1_nobodyWouldChange 26 = .ok (.imul, 1) := by decide +kernel
theorem dX1_nobodyWouldChange_27 : decode cX1_nobodyWouldChange 27 = .ok (.iload_n 2, 1) := by decide +kernel
theorem dX1_nobodyWouldChange_28 : decode cX1_nobodyWouldChange 28 = .ok (.iadd, 1) := by decide +kernel
theorem dX1_nobodyWouldChange_29 : decode cX1_nobodyWouldChange 29 = .ok (.iaload, 1) := by decide +kernel
theorem dX1_nobodyWouldChange_30 : decode cX1_nobodyWouldChange 30 = .ok (.aload_n 0, 1) := by decide +kernel
theorem dX1_nobodyWouldChange_31 : decode cX1_nobodyWouldChange 31 = .ok (.getfield 9, 3) := by decide +kernel
theorem dX1_nobodyWouldChange_34 : decode cX1_nobodyWouldChange 34 = .ok (.iload_n 1, 1) := by decide +kernel
theorem dX1_nobodyWouldChange_35 : decode cX1_nobodyWouldChange 35 = .ok (.bipush 6, 2) := by decide +kernel
theorem dX1_nobodyWouldChange_37 : decode cX1_nobodyWouldChange 37 = .ok (.imul, 1) := by decide +kernel
theorem dX1_nobodyWouldChange_38 : decode cX1_nobodyWouldChange 38 = .ok (.iload_n 2, 1) := by decide +kernel
theorem dX1_nobodyWouldChange_39 : decode cX1_nobodyWouldChange 39 = .ok (.iadd, 1) := by decide +kernel
theorem dX1_nobodyWouldChange_40 : decode cX1_nobodyWouldChange 40 = .ok (.iaload, 1) := by decide +kernel
theorem dX1_nobodyWouldChange_41 : decode cX1_nobodyWouldChange 41 = .ok (.if_icmp .ge 5, 3) := by decide +kernel
theorem dX1_nobodyWouldChange_44 : decode cX1_nobodyWouldChange 44 = .ok (.iconst 0, 1) := by decide +kernel
theorem dX1_nobodyWouldChange_45 : decode cX1_nobodyWouldChange 45 = .ok (.ireturn, 1) := by decide +kernel
theorem dX1_nobodyWouldChange_46 : decode cX1_nobodyWouldChange 46 = .ok (.iinc 2 1, 3) := by decide +kernel
theorem dX1_nobodyWouldChange_49 : decode cX1_nobodyWouldChange 49 = .ok (.goto (-47), 3) := by decide +kernel
theorem dX1_nobodyWouldChange_52 : decode cX1_nobodyWouldChange 52 = .ok (.iconst 1, 1) := by decide +kernel
theorem dX1_nobodyWouldChange_53 : decode cX1_nobodyWouldChange 53 = .ok (.ireturn, 1) := by decide +kernel
theorem dX1_findPlot_0 : decode cX1_findPlot 0 = .ok (.aload_n 0, 1) := by decide +kernel
theorem dX1_findPlot_1 : decode cX1_findPlot 1 = .ok (.iconst (-1), 1) := by decide +kernel
theorem dX1_findPlot_2 : decode cX1_findPlot 2 = .ok (.putfield 28, 3) := by decide +kernel
theorem dX1_findPlot_5 : decode cX1_findPlot 5 = .ok (.aload_n 0, 1) := by decide +kernel
theorem dX1_findPlot_6 : decode cX1_findPlot 6 = .ok (.iconst (-1), 1) := by decide +kernel
theorem dX1_findPlot_7 : decode cX1_findPlot 7 = .ok (.putfield 66, 3) := by decide +kernel
theorem dX1_findPlot_10 : decode cX1_findPlot 10 = .ok (.iconst 0, 1) := by decide +kernel
theorem dX1_findPlot_11 : decode cX1_findPlot 11 = .ok (.istore 4, 2) := by decide +kernel
theorem dX1_findPlot_13 : decode cX1_findPlot 13 = .ok (.iload 4, 2) := by decide +kernel
theorem dX1_findPlot_15 : decode cX1_findPlot 15 = .ok (.iload_n 2, 1) := by decide +kernel
theorem dX1_findPlot_16 : decode cX1_findPlot 16 = .ok (.if_icmp .gt 75, 3) := by decide +kernel
theorem dX1_findPlot_19 : decode cX1_findPlot 19 = .ok (.iload 4, 2) := by decide +kernel
theorem dX1_findPlot_21 : decode cX1_findPlot 21 = .ok (.invokestatic 73, 3) := by decide +kernel
theorem dX1_findPlot_24 : decode cX1_findPlot 24 = .ok (.istore 5, 2) := by decide +kernel
theorem dX1_findPlot_26 : decode cX1_findPlot 26 = .ok (.iload 4, 2) := by decide +kernel
theorem dX1_findPlot_28 : decode cX1_findPlot 28 = .ok (.iload_n 2, 1) := by decide +kernel
theorem dX1_findPlot_29 : decode cX1_findPlot 29 = .ok (.iconst (-1), 1) := by decide +kernel
theorem dX1_findPlot_30 : decode cX1_findPlot 30 = .ok (.ixor, 1) := by decide +kernel
theorem dX1_findPlot_31 : decode cX1_findPlot 31 = .ok (.iand, 1) := by decide +kernel
theorem dX1_findPlot_32 : decode cX1_findPlot 32 = .ok (.ifCond .ne 53, 3) := by decide +kernel
theorem dX1_findPlot_35 : decode cX1_findPlot 35 = .ok (.aload_n 0, 1) := by decide +kernel
theorem dX1_findPlot_36 : decode cX1_findPlot 36 = .ok (.getfield 28, 3) := by decide +kernel
theorem dX1_findPlot_39 : decode cX1_findPlot 39 = .ok (.iconst (-1), 1) := by decide +kernel
theorem dX1_findPlot_40 : decode cX1_findPlot 40 = .ok (.if_icmp .eq 12, 3) := by decide +kernel
theorem dX1_findPlot_43 : decode cX1_findPlot 43 = .ok (.iload 5, 2) := by decide +kernel
theorem dX1_findPlot_45 : decode cX1_findPlot 45 = .ok (.aload_n 0, 1) := by decide +kernel
theorem dX1_findPlot_46 : decode cX1_findPlot 46 = .ok (.getfield 28, 3) := by decide +kernel
theorem dX1_findPlot_49 : decode cX1_findPlot 49 = .ok (.if_icmp .ge 36, 3) := by decide +kernel
theorem dX1_findPlot_52 : decode cX1_findPlot 52 = .ok (.aload_n 0, 1) := by decide +kernel
theorem dX1_findPlot_53 : decode cX1_findPlot 53 = .ok (.iload 4, 2) := by decide +kernel
theorem dX1_findPlot_55 : decode cX1_findPlot 55 = .ok (.invokevirtual 79, 3) := by decide +kernel
theorem dX1_findPlot_58 : decode cX1_findPlot 58 = .ok (.aload_n 0, 1) := by decide +kernel
theorem dX1_findPlot_59 : decode cX1_findPlot 59 = .ok (.getfield 19, 3) := by decide +kernel
theorem dX1_findPlot_62 : decode cX1_findPlot 62 = .ok (.iload_n 3, 1) := by decide +kernel
theorem dX1_findPlot_63 : decode cX1_findPlot 63 = .ok (.invokevirtual 83, 3) := by decide +kernel
theorem dX1_findPlot_66 : decode cX1_findPlot 66 = .ok (.iload_n 1, 1) := by decide +kernel
theorem dX1_findPlot_67 : decode cX1_findPlot 67 = .ok (.invokestatic 86, 3) := by decide +kernel
theorem dX1_findPlot_70 : decode cX1_findPlot 70 = .ok (.ifCond .eq 15, 3) := by decide +kernel
theorem dX1_findPlot_73 : decode cX1_findPlot 73 = .ok (.aload_n 0, 1) := by decide +kernel
theorem dX1_findPlot_74 : decode cX1_findPlot 74 = .ok (.iload 5, 2) := by decide +kernel
theorem dX1_findPlot_76 : decode cX1_findPlot 76 = .ok (.putfield 28, 3) := by decide +kernel
theorem dX1_findPlot_79 : decode cX1_findPlot 79 = .ok (.aload_n 0, 1) := by decide +kernel
theorem dX1_findPlot_80 : decode cX1_findPlot 80 = .ok (.iload 4, 2) := by decide +kernel
theorem dX1_findPlot_82 : decode cX1_findPlot 82 = .ok (.putfield 66, 3) := by decide +kernel
theorem dX1_findPlot_85 : decode cX1_findPlot 85 = .ok (.iinc 4 1, 3) := by decide +kernel
theorem dX1_findPlot_88 : decode cX1_findPlot 88 = .ok (.goto (-75), 3) := by decide +kernel
theorem dX1_findPlot_91 : decode cX1_findPlot 91 = .ok (.return_, 1) := by decide +kernel
theorem dX1_keepStill_0 : decode cX1_keepStill 0 = .ok (.aload_n 0, 1) := by decide +kernel
theorem dX1_keepStill_1 : decode cX1_keepStill 1 = .ok (.getfield 19, 3) := by decide +kernel
theorem dX1_keepStill_4 : decode cX1_keepStill 4 = .ok (.invokevirtual 23, 3) := by decide +kernel
theorem dX1_keepStill_7 : decode cX1_keepStill 7 = .ok (.iconst 0, 1) := by decide +kernel
theorem dX1_keepStill_8 : decode cX1_keepStill 8 = .ok (.istore_n 2, 1) := by decide +kernel
theorem dX1_keepStill_9 : decode cX1_keepStill 9 = .ok (.iload_n 2, 1) := by decide +kernel
theorem dX1_keepStill_10 : decode cX1_keepStill 10 = .ok (.aload_n 0, 1) := by decide +kernel
theorem dX1_keepStill_11 : decode cX1_keepStill 11 = .ok (.getfield 15, 3) := by decide +kernel
theorem dX1_keepStill_14 : decode cX1_keepStill 14 = .ok (.getfield 57, 3) := by decide +kernel
theorem dX1_keepStill_17 : decode cX1_keepStill 17 = .ok (.if_icmp .ge 27, 3) := by decide +kernel
theorem dX1_keepStill_20 : decode cX1_keepStill 20 = .ok (.iload_n 1, 1) := by decide +kernel
theorem dX1_keepStill_21 : decode cX1_keepStill 21 = .ok (.iload_n 2, 1) := by decide +kernel
theorem dX1_keepStill_22 : decode cX1_keepStill 22 = .ok (.invokestatic 86, 3) := by decide +kernel
theorem dX1_keepStill_25 : decode cX1_keepStill 25 = .ok (.ifCond .eq 13, 3) := by decide +kernel
theorem dX1_keepStill_28 : decode cX1_keepStill 28 = .ok (.aload_n 0, 1) := by decide +kernel
theorem dX1_keepStill_29 : decode cX1_keepStill 29 = .ok (.getfield 19, 3) := by decide +kernel
theorem dX1_keepStill_32 : decode cX1_keepStill 32 = .ok (.getfield 32, 3) := by decide +kernel
theorem dX1_keepStill_35 : decode cX1_keepStill 35 = .ok (.iload_n 2, 1) := by decide +kernel
theorem dX1_keepStill_36 : decode cX1_keepStill 36 = .ok (.iconst 0, 1) := by decide +kernel
theorem dX1_keepStill_37 : decode cX1_keepStill 37 = .ok (.iastore, 1) := by decide +kernel
theorem dX1_keepStill_38 : decode cX1_keepStill 38 = .ok (.iinc 2 1, 3) := by decide +kernel
theorem dX1_keepStill_41 : decode cX1_keepStill 41 = .ok (.goto (-32), 3) := by decide +kernel
theorem dX1_keepStill_44 : decode cX1_keepStill 44 = .ok (.return_, 1) := by decide +kernel
theorem dX1_findLaid_0 : decode cX1_findLaid 0 = .ok (.aload_n 0, 1) := by decide +kernel
theorem dX1_findLaid_1 : decode cX1_findLaid 1 = .ok (.getfield 19, 3) := by decide +kernel
theorem dX1_findLaid_4 : decode cX1_findLaid 4 = .ok (.invokevirtual 23, 3) := by decide +kernel
theorem dX1_findLaid_7 : decode cX1_findLaid 7 = .ok (.aload_n 0, 1) := by decide +kernel
theorem dX1_findLaid_8 : decode cX1_findLaid 8 = .ok (.bipush 101, 2) := by decide +kernel
theorem dX1_findLaid_10 : decode cX1_findLaid 10 = .ok (.putfield 28, 3) := by decide +kernel
theorem dX1_findLaid_13 : decode cX1_findLaid 13 = .ok (.aload_n 0, 1) := by decide +kernel
theorem dX1_findLaid_14 : decode cX1_findLaid 14 = .ok (.iconst (-1), 1) := by decide +kernel
theorem dX1_findLaid_15 : decode cX1_findLaid 15 = .ok (.putfield 66, 3) := by decide +kernel
theorem dX1_findLaid_18 : decode cX1_findLaid 18 = .ok (.iconst 0, 1) := by decide +kernel
theorem dX1_findLaid_19 : decode cX1_findLaid 19 = .ok (.istore 4, 2) := by decide +kernel
theorem dX1_findLaid_21 : decode cX1_findLaid 21 = .ok (.iload 4, 2) := by decide +kernel
theorem dX1_findLaid_23 : decode cX1_findLaid 23 = .ok (.iconst 1, 1) := by decide +kernel
theorem dX1_findLaid_24 : decode cX1_findLaid 24 = .ok (.aload_n 0, 1) := by decide +kernel
theorem dX1_findLaid_25 : decode cX1_findLaid 25 = .ok (.getfield 15, 3) := by decide +kernel
theorem dX1_findLaid_28 : decode cX1_findLaid 28 = .ok (.getfield 90, 3) := by decide +kernel
theorem dX1_findLaid_31 : decode cX1_findLaid 31 = .ok (.ishl, 1) := by decide +kernel
theorem dX1_findLaid_32 : decode cX1_findLaid 32 = .ok (.if_icmp .ge 73, 3) := by decide +kernel
theorem dX1_findLaid_35 : decode cX1_findLaid 35 = .ok (.aload_n 0, 1) := by decide +kernel
theorem dX1_findLaid_36 : decode cX1_findLaid 36 = .ok (.getfield 28, 3) := by decide +kernel
theorem dX1_findLaid_39 : decode cX1_findLaid 39 = .ok (.ifCond .le 66, 3) := by decide +kernel
theorem dX1_findLaid_42 : decode cX1_findLaid 42 = .ok (.iload 4, 2) := by decide +kernel
theorem dX1_findLaid_44 : decode cX1_findLaid 44 = .ok (.invokestatic 73, 3) := by decide +kernel
theorem dX1_findLaid_47 : decode cX1_findLaid 47 = .ok (.iload_n 1, 1) := by decide +kernel
theorem dX1_findLaid_48 : decode cX1_findLaid 48 = .ok (.if_icmp .ne 51, 3) := by decide +kernel
theorem dX1_findLaid_51 : decode cX1_findLaid 51 = .ok (.aload_n 0, 1) := by decide +kernel
theorem dX1_findLaid_52 : decode cX1_findLaid 52 = .ok (.getfield 19, 3) := by decide +kernel
theorem dX1_findLaid_55 : decode cX1_findLaid 55 = .ok (.iload 4, 2) := by decide +kernel
theorem dX1_findLaid_57 : decode cX1_findLaid 57 = .ok (.putfield 93, 3) := by decide +kernel
theorem dX1_findLaid_60 : decode cX1_findLaid 60 = .ok (.aload_n 0, 1) := by decide +kernel
theorem dX1_findLaid_61 : decode cX1_findLaid 61 = .ok (.getfield 19, 3) := by decide +kernel
theorem dX1_findLaid_64 : decode cX1_findLaid 64 = .ok (.iload_n 2, 1) := by decide +kernel
theorem dX1_findLaid_65 : decode cX1_findLaid 65 = .ok (.iload_n 3, 1) := by decide +kernel
theorem dX1_findLaid_66 : decode cX1_findLaid 66 = .ok (.invokevirtual 38, 3) := by decide +kernel
theorem dX1_findLaid_69 : decode cX1_findLaid 69 = .ok (.aload_n 0, 1) := by decide +kernel
theorem dX1_findLaid_70 : decode cX1_findLaid 70 = .ok (.getfield 19, 3) := by decide +kernel
theorem dX1_findLaid_73 : decode cX1_findLaid 73 = .ok (.invokevirtual 96, 3) := by decide +kernel
theorem dX1_findLaid_76 : decode cX1_findLaid 76 = .ok (.istore 5, 2) := by decide +kernel
theorem dX1_findLaid_78 : decode cX1_findLaid 78 = .ok (.iload 5, 2) := by decide +kernel
theorem dX1_findLaid_80 : decode cX1_findLaid 80 = .ok (.aload_n 0, 1) := by decide +kernel
theorem dX1_findLaid_81 : decode cX1_findLaid 81 = .ok (.getfield 28, 3) := by decide +kernel
theorem dX1_findLaid_84 : decode cX1_findLaid 84 = .ok (.if_icmp .ge 15, 3) := by decide +kernel
theorem dX1_findLaid_87 : decode cX1_findLaid 87 = .ok (.aload_n 0, 1) := by decide +kernel
theorem dX1_findLaid_88 : decode cX1_findLaid 88 = .ok (.iload 5, 2) := by decide +kernel
theorem dX1_findLaid_90 : decode cX1_findLaid 90 = .ok (.putfield 28, 3) := by decide +kernel
theorem dX1_findLaid_93 : decode cX1_findLaid 93 = .ok (.aload_n 0, 1) := by decide +kernel
theorem dX1_findLaid_94 : decode cX1_findLaid 94 = .ok (.iload 4, 2) := by decide +kernel
theorem dX1_findLaid_96 : decode cX1_findLaid 96 = .ok (.putfield 66, 3) := by decide +kernel
theorem dX1_findLaid_99 : decode cX1_findLaid 99 = .ok (.iinc 4 1, 3) := by decide +kernel
theorem dX1_findLaid_102 : decode cX1_findLaid 102 = .ok (.goto (-81), 3) := by decide +kernel
theorem dX1_findLaid_105 : decode cX1_findLaid 105 = .ok (.return_, 1) := by decide +kernel
theorem dX1_findFits_0 : decode cX1_findFits 0 = .ok (.aload_n 0, 1) := by decide +kernel
theorem dX1_findFits_1 : decode cX1_findFits 1 = .ok (.getfield 19, 3) := by decide +kernel
theorem dX1_findFits_4 : decode cX1_findFits 4 = .ok (.invokevirtual 23, 3) := by decide +kernel
theorem dX1_findFits_7 : decode cX1_findFits 7 = .ok (.aload_n 0, 1) := by decide +kernel
theorem dX1_findFits_8 : decode cX1_findFits 8 = .ok (.iconst 0, 1) := by decide +kernel
theorem dX1_findFits_9 : decode cX1_findFits 9 = .ok (.putfield 28, 3) := by decide +kernel
theorem dX1_findFits_12 : decode cX1_findFits 12 = .ok (.aload_n 0, 1) := by decide +kernel
theorem dX1_findFits_13 : decode cX1_findFits 13 = .ok (.iconst (-1), 1) := by decide +kernel
theorem dX1_findFits_14 : decode cX1_findFits 14 = .ok (.putfield 66, 3) := by decide +kernel
theorem dX1_findFits_17 : decode cX1_findFits 17 = .ok (.iconst 0, 1) := by decide +kernel
theorem dX1_findFits_18 : decode cX1_findFits 18 = .ok (.istore_n 2, 1) := by decide +kernel
theorem dX1_findFits_19 : decode cX1_findFits 19 = .ok (.iload_n 2, 1) := by decide +kernel
theorem dX1_findFits_20 : decode cX1_findFits 20 = .ok (.aload_n 0, 1) := by decide +kernel
theorem dX1_findFits_21 : decode cX1_findFits 21 = .ok (.getfield 15, 3) := by decide +kernel
theorem dX1_findFits_24 : decode cX1_findFits 24 = .ok (.getfield 90, 3) := by decide +kernel
theorem dX1_findFits_27 : decode cX1_findFits 27 = .ok (.if_icmp .ge 64, 3) := by decide +kernel
theorem dX1_findFits_30 : decode cX1_findFits 30 = .ok (.aload_n 1, 1) := by decide +kernel
theorem dX1_findFits_31 : decode cX1_findFits 31 = .ok (.aload_n 0, 1) := by decide +kernel
theorem dX1_findFits_32 : decode cX1_findFits 32 = .ok (.getfield 19, 3) := by decide +kernel
theorem dX1_findFits_35 : decode cX1_findFits 35 = .ok (.iload_n 2, 1) := by decide +kernel
theorem dX1_findFits_36 : decode cX1_findFits 36 = .ok (.invokevirtual 83, 3) := by decide +kernel
theorem dX1_findFits_39 : decode cX1_findFits 39 = .ok (.invokevirtual 99, 3) := by decide +kernel
theorem dX1_findFits_42 : decode cX1_findFits 42 = .ok (.ifCond .eq 43, 3) := by decide +kernel
theorem dX1_findFits_45 : decode cX1_findFits 45 = .ok (.aload_n 0, 1) := by decide +kernel
theorem dX1_findFits_46 : decode cX1_findFits 46 = .ok (.dup, 1) := by decide +kernel
theorem dX1_findFits_47 : decode cX1_findFits 47 = .ok (.getfield 28, 3) := by decide +kernel
theorem dX1_findFits_50 : decode cX1_findFits 50 = .ok (.aload_n 0, 1) := by decide +kernel
theorem dX1_findFits_51 : decode cX1_findFits 51 = .ok (.getfield 19, 3) := by decide +kernel
theorem dX1_findFits_54 : decode cX1_findFits 54 = .ok (.iload_n 2, 1) := by decide +kernel
theorem dX1_findFits_55 : decode cX1_findFits 55 = .ok (.iconst 0, 1) := by decide +kernel
theorem dX1_findFits_56 : decode cX1_findFits 56 = .ok (.bipush 99, 2) := by decide +kernel
theorem dX1_findFits_58 : decode cX1_findFits 58 = .ok (.invokevirtual 104, 3) := by decide +kernel
theorem dX1_findFits_61 : decode cX1_findFits 61 = .ok (.iadd, 1) := by decide +kernel
theorem dX1_findFits_62 : decode cX1_findFits 62 = .ok (.putfield 28, 3) := by decide +kernel
theorem dX1_findFits_65 : decode cX1_findFits 65 = .ok (.aload_n 0, 1) := by decide +kernel
theorem dX1_findFits_66 : decode cX1_findFits 66 = .ok (.aload_n 0, 1) := by decide +kernel
theorem dX1_findFits_67 : decode cX1_findFits 67 = .ok (.getfield 66, 3) := by decide +kernel
theorem dX1_findFits_70 : decode cX1_findFits 70 = .ok (.iconst (-1), 1) := by decide +kernel
theorem dX1_findFits_71 : decode cX1_findFits 71 = .ok (.if_icmp .ne 7, 3) := by decide +kernel
theorem dX1_findFits_74 : decode cX1_findFits 74 = .ok (.iload_n 2, 1) := by decide +kernel
theorem dX1_findFits_75 : decode cX1_findFits 75 = .ok (.goto 7, 3) := by decide +kernel
theorem dX1_findFits_78 : decode cX1_findFits 78 = .ok (.aload_n 0, 1) := by decide +kernel
theorem dX1_findFits_79 : decode cX1_findFits 79 = .ok (.getfield 66, 3) := by decide +kernel
theorem dX1_findFits_82 : decode cX1_findFits 82 = .ok (.putfield 66, 3) := by decide +kernel
theorem dX1_findFits_85 : decode cX1_findFits 85 = .ok (.iinc 2 1, 3) := by decide +kernel
theorem dX1_findFits_88 : decode cX1_findFits 88 = .ok (.goto (-69), 3) := by decide +kernel
theorem dX1_findFits_91 : decode cX1_findFits 91 = .ok (.return_, 1) := by decide +kernel
theorem dX2_init_0 : decode cX2_init 0 = .ok (.aload_n 0, 1) := by decide +kernel
theorem dX2_init_1 : decode cX2_init 1 = .ok (.invokespecial 3, 3) := by decide +kernel
theorem dX2_init_4 : decode cX2_init 4 = .ok (.aload_n 0, 1) := by decide +kernel
theorem dX2_init_5 : decode cX2_init 5 = .ok (.bipush 6, 2) := by decide +kernel
theorem dX2_init_7 : decode cX2_init 7 = .ok (.newarray .int, 2) := by decide +kernel
theorem dX2_init_9 : decode cX2_init 9 = .ok (.putfield 9, 3) := by decide +kernel
theorem dX2_init_12 : decode cX2_init 12 = .ok (.aload_n 0, 1) := by decide +kernel
theorem dX2_init_13 : decode cX2_init 13 = .ok (.bipush 6, 2) := by decide +kernel
theorem dX2_init_15 : decode cX2_init 15 = .ok (.newarray .int, 2) := by decide +kernel
theorem dX2_init_17 : decode cX2_init 17 = .ok (.putfield 15, 3) := by decide +kernel
theorem dX2_init_20 : decode cX2_init 20 = .ok (.aload_n 0, 1) := by decide +kernel
theorem dX2_init_21 : decode cX2_init 21 = .ok (.bipush 6, 2) := by decide +kernel
theorem dX2_init_23 : decode cX2_init 23 = .ok (.newarray .int, 2) := by decide +kernel
theorem dX2_init_25 : decode cX2_init 25 = .ok (.putfield 18, 3) := by decide +kernel
theorem dX2_init_28 : decode cX2_init 28 = .ok (.aload_n 0, 1) := by decide +kernel
theorem dX2_init_29 : decode cX2_init 29 = .ok (.aload_n 1, 1) := by decide +kernel
theorem dX2_init_30 : decode cX2_init 30 = .ok (.putfield 21, 3) := by decide +kernel
theorem dX2_init_33 : decode cX2_init 33 = .ok (.aload_n 0, 1) := by decide +kernel
theorem dX2_init_34 : decode cX2_init 34 = .ok (.aload_n 2, 1) := by decide +kernel
theorem dX2_init_35 : decode cX2_init 35 = .ok (.putfield 25, 3) := by decide +kernel
theorem dX2_init_38 : decode cX2_init 38 = .ok (.return_, 1) := by decide +kernel
theorem dX2_asTold_0 : decode cX2_asTold 0 = .ok (.aload_n 0, 1) := by decide +kernel
theorem dX2_asTold_1 : decode cX2_asTold 1 = .ok (.getfield 21, 3) := by decide +kernel
theorem dX2_asTold_4 : decode cX2_asTold 4 = .ok (.getfield 29, 3) := by decide +kernel
theorem dX2_asTold_7 : decode cX2_asTold 7 = .ok (.iconst 0, 1) := by decide +kernel
theorem dX2_asTold_8 : decode cX2_asTold 8 = .ok (.aload_n 0, 1) := by decide +kernel
theorem dX2_asTold_9 : decode cX2_asTold 9 = .ok (.getfield 9, 3) := by decide +kernel
theorem dX2_asTold_12 : decode cX2_asTold 12 = .ok (.iconst 0, 1) := by decide +kernel
theorem dX2_asTold_13 : decode cX2_asTold 13 = .ok (.bipush 6, 2) := by decide +kernel
theorem dX2_asTold_15 : decode cX2_asTold 15 = .ok (.invokestatic 32, 3) := by decide +kernel
theorem dX2_asTold_18 : decode cX2_asTold 18 = .ok (.aload_n 0, 1) := by decide +kernel
theorem dX2_asTold_19 : decode cX2_asTold 19 = .ok (.getfield 21, 3) := by decide +kernel
theorem dX2_asTold_22 : decode cX2_asTold 22 = .ok (.getfield 38, 3) := by decide +kernel
theorem dX2_asTold_25 : decode cX2_asTold 25 = .ok (.iconst 0, 1) := by decide +kernel
theorem dX2_asTold_26 : decode cX2_asTold 26 = .ok (.aload_n 0, 1) := by decide +kernel
theorem dX2_asTold_27 : decode cX2_asTold 27 = .ok (.getfield 15, 3) := by decide +kernel
theorem dX2_asTold_30 : decode cX2_asTold 30 = .ok (.iconst 0, 1) := by decide +kernel
theorem dX2_asTold_31 : decode cX2_asTold 31 = .ok (.bipush 6, 2) := by decide +kernel
theorem dX2_asTold_33 : decode cX2_asTold 33 = .ok (.invokestatic 32, 3) := by decide +kernel
theorem dX2_asTold_36 : decode cX2_asTold 36 = .ok (.aload_n 0, 1) := by decide +kernel
theorem dX2_asTold_37 : decode cX2_asTold 37 = .ok (.aload_n 0, 1) := by decide +kernel
theorem dX2_asTold_38 : decode cX2_asTold 38 = .ok (.getfield 21, 3) := by decide +kernel
theorem dX2_asTold_41 : decode cX2_asTold 41 = .ok (.invokevirtual 39, 3) := by decide +kernel
theorem dX2_asTold_44 : decode cX2_asTold 44 = .ok (.putfield 43, 3) := by decide +kernel
theorem dX2_asTold_47 : decode cX2_asTold 47 = .ok (.aload_n 0, 1) := by decide +kernel
theorem dX2_asTold_48 : decode cX2_asTold 48 = .ok (.aload_n 0, 1) := by decide +kernel
theorem dX2_asTold_49 : decode cX2_asTold 49 = .ok (.getfield 21, 3) := by decide +kernel
theorem dX2_asTold_52 : decode cX2_asTold 52 = .ok (.getfield 47, 3) := by decide +kernel
theorem dX2_asTold_55 : decode cX2_asTold 55 = .ok (.putfield 50, 3) := by decide +kernel
theorem dX2_asTold_58 : decode cX2_asTold 58 = .ok (.return_, 1) := by decide +kernel
theorem dX2_stoodAt_0 : decode cX2_stoodAt 0 = .ok (.aload_n 0, 1) := by decide +kernel
theorem dX2_stoodAt_1 : decode cX2_stoodAt 1 = .ok (.iload_n 1, 1) := by decide +kernel
theorem dX2_stoodAt_2 : decode cX2_stoodAt 2 = .ok (.invokevirtual 51, 3) := by decide +kernel
theorem dX2_stoodAt_5 : decode cX2_stoodAt 5 = .ok (.aload_n 0, 1) := by decide +kernel
theorem dX2_stoodAt_6 : decode cX2_stoodAt 6 = .ok (.getfield 25, 3) := by decide +kernel
theorem dX2_stoodAt_9 : decode cX2_stoodAt 9 = .ok (.aload_n 0, 1) := by decide +kernel
theorem dX2_stoodAt_10 : decode cX2_stoodAt 10 = .ok (.getfield 43, 3) := by decide +kernel
theorem dX2_stoodAt_13 : decode cX2_stoodAt 13 = .ok (.aload_n 0, 1) := by decide +kernel
theorem dX2_stoodAt_14 : decode cX2_stoodAt 14 = .ok (.getfield 50, 3) := by decide +kernel
theorem dX2_stoodAt_17 : decode cX2_stoodAt 17 = .ok (.invokevirtual 55, 3) := by decide +kernel
theorem dX2_stoodAt_20 : decode cX2_stoodAt 20 = .ok (.ireturn, 1) := by decide +kernel
theorem dX2_goTo_0 : decode cX2_goTo 0 = .ok (.iconst 0, 1) := by decide +kernel
theorem dX2_goTo_1 : decode cX2_goTo 1 = .ok (.istore_n 2, 1) := by decide +kernel
theorem dX2_goTo_2 : decode cX2_goTo 2 = .ok (.iload_n 2, 1) := by decide +kernel
theorem dX2_goTo_3 : decode cX2_goTo 3 = .ok (.aload_n 0, 1) := by decide +kernel
theorem dX2_goTo_4 : decode cX2_goTo 4 = .ok (.getfield 21, 3) := by decide +kernel
theorem dX2_goTo_7 : decode cX2_goTo 7 = .ok (.getfield 61, 3) := by decide +kernel
theorem dX2_goTo_10 : decode cX2_goTo 10 = .ok (.if_icmp .ge 48, 3) := by decide +kernel
theorem dX2_goTo_13 : decode cX2_goTo 13 = .ok (.aload_n 0, 1) := by decide +kernel
theorem dX2_goTo_14 : decode cX2_goTo 14 = .ok (.getfield 25, 3) := by decide +kernel
theorem dX2_goTo_17 : decode cX2_goTo 17 = .ok (.getfield 64, 3) := by decide +kernel
theorem dX2_goTo_20 : decode cX2_goTo 20 = .ok (.iload_n 2, 1) := by decide +kernel
theorem dX2_goTo_21 : decode cX2_goTo 21 = .ok (.aload_n 0, 1) := by decide +kernel
theorem dX2_goTo_22 : decode cX2_goTo 22 = .ok (.getfield 21, 3) := by decide +kernel
theorem dX2_goTo_25 : decode cX2_goTo 25 = .ok (.aload_n 0, 1) := by decide +kernel
theorem dX2_goTo_26 : decode cX2_goTo 26 = .ok (.getfield 21, 3) := by decide +kernel
theorem dX2_goTo_29 : decode cX2_goTo 29 = .ok (.getfield 67, 3) := by decide +kernel
theorem dX2_goTo_32 : decode cX2_goTo 32 = .ok (.iload_n 2, 1) := by decide +kernel
theorem dX2_goTo_33 : decode cX2_goTo 33 = .ok (.iaload, 1) := by decide +kernel
theorem dX2_goTo_34 : decode cX2_goTo 34 = .ok (.aload_n 0, 1) := by decide +kernel
theorem dX2_goTo_35 : decode cX2_goTo 35 = .ok (.getfield 9, 3) := by decide +kernel
theorem dX2_goTo_38 : decode cX2_goTo 38 = .ok (.iload_n 2, 1) := by decide +kernel
theorem dX2_goTo_39 : decode cX2_goTo 39 = .ok (.iaload, 1) := by decide +kernel
theorem dX2_goTo_40 : decode cX2_goTo 40 = .ok (.iload_n 1, 1) := by decide +kernel
theorem dX2_goTo_41 : decode cX2_goTo 41 = .ok (.imul, 1) := by decide +kernel
theorem dX2_goTo_42 : decode cX2_goTo 42 = .ok (.aload_n 0, 1) := by decide +kernel
theorem dX2_goTo_43 : decode cX2_goTo 43 = .ok (.getfield 15, 3) := by decide +kernel
theorem dX2_goTo_46 : decode cX2_goTo 46 = .ok (.iload_n 2, 1) := by decide +kernel
theorem dX2_goTo_47 : decode cX2_goTo 47 = .ok (.iaload, 1) := by decide +kernel
theorem dX2_goTo_48 : decode cX2_goTo 48 = .ok (.invokevirtual 70, 3) := by decide +kernel
theorem dX2_goTo_51 : decode cX2_goTo 51 = .ok (.iastore, 1) := by decide +kernel
theorem dX2_goTo_52 : decode cX2_goTo 52 = .ok (.iinc 2 1, 3) := by decide +kernel
theorem dX2_goTo_55 : decode cX2_goTo 55 = .ok (.goto (-53), 3) := by decide +kernel
theorem dX2_goTo_58 : decode cX2_goTo 58 = .ok (.return_, 1) := by decide +kernel
theorem dX2_tally_0 : decode cX2_tally 0 = .ok (.aload_n 0, 1) := by decide +kernel
theorem dX2_tally_1 : decode cX2_tally 1 = .ok (.getfield 18, 3) := by decide +kernel
theorem dX2_tally_4 : decode cX2_tally 4 = .ok (.iconst 0, 1) := by decide +kernel
theorem dX2_tally_5 : decode cX2_tally 5 = .ok (.invokestatic 74, 3) := by decide +kernel
theorem dX2_tally_8 : decode cX2_tally 8 = .ok (.iconst 0, 1) := by decide +kernel
theorem dX2_tally_9 : decode cX2_tally 9 = .ok (.istore_n 3, 1) := by decide +kernel
theorem dX2_tally_10 : decode cX2_tally 10 = .ok (.iload_n 3, 1) := by decide +kernel
theorem dX2_tally_11 : decode cX2_tally 11 = .ok (.aload_n 0, 1) := by decide +kernel
theorem dX2_tally_12 : decode cX2_tally 12 = .ok (.getfield 21, 3) := by decide +kernel
theorem dX2_tally_15 : decode cX2_tally 15 = .ok (.getfield 80, 3) := by decide +kernel
theorem dX2_tally_18 : decode cX2_tally 18 = .ok (.if_icmp .ge 49, 3) := by decide +kernel
theorem dX2_tally_21 : decode cX2_tally 21 = .ok (.aload_n 0, 1) := by decide +kernel
theorem dX2_tally_22 : decode cX2_tally 22 = .ok (.iload_n 3, 1) := by decide +kernel
theorem dX2_tally_23 : decode cX2_tally 23 = .ok (.iload_n 1, 1) := by decide +kernel
theorem dX2_tally_24 : decode cX2_tally 24 = .ok (.iload_n 2, 1) := by decide +kernel
theorem dX2_tally_25 : decode cX2_tally 25 = .ok (.invokevirtual 83, 3) := by decide +kernel
theorem dX2_tally_28 : decode cX2_tally 28 = .ok (.istore 4, 2) := by decide +kernel
theorem dX2_tally_30 : decode cX2_tally 30 = .ok (.iload 4, 2) := by decide +kernel
theorem dX2_tally_32 : decode cX2_tally 32 = .ok (.ifCond .le 29, 3) := by decide +kernel
theorem dX2_tally_35 : decode cX2_tally 35 = .ok (.aload_n 0, 1) := by decide +kernel
theorem dX2_tally_36 : decode cX2_tally 36 = .ok (.iload_n 3, 1) := by decide +kernel
theorem dX2_tally_37 : decode cX2_tally 37 = .ok (.invokevirtual 51, 3) := by decide +kernel
theorem dX2_tally_40 : decode cX2_tally 40 = .ok (.aload_n 0, 1) := by decide +kernel
theorem dX2_tally_41 : decode cX2_tally 41 = .ok (.aload_n 0, 1) := by decide +kernel
theorem dX2_tally_42 : decode cX2_tally 42 = .ok (.getfield 25, 3) := by decide +kernel
theorem dX2_tally_45 : decode cX2_tally 45 = .ok (.aload_n 0, 1) := by decide +kernel
theorem dX2_tally_46 : decode cX2_tally 46 = .ok (.getfield 43, 3) := by decide +kernel
theorem dX2_tally_49 : decode cX2_tally 49 = .ok (.aload_n 0, 1) := by decide +kernel
theorem dX2_tally_50 : decode cX2_tally 50 = .ok (.getfield 50, 3) := by decide +kernel
theorem dX2_tally_53 : decode cX2_tally 53 = .ok (.invokevirtual 55, 3) := by decide +kernel
theorem dX2_tally_56 : decode cX2_tally 56 = .ok (.iload 4, 2) := by decide +kernel
theorem dX2_tally_58 : decode cX2_tally 58 = .ok (.invokevirtual 86, 3) := by decide +kernel
theorem dX2_tally_61 : decode cX2_tally 61 = .ok (.iinc 3 1, 3) := by decide +kernel
theorem dX2_tally_64 : decode cX2_tally 64 = .ok (.goto (-54), 3) := by decide +kernel
theorem dX2_tally_67 : decode cX2_tally 67 = .ok (.return_, 1) := by decide +kernel
theorem dX2_addTimes_0 : decode cX2_addTimes 0 = .ok (.iconst 0, 1) := by decide +kernel
theorem dX2_addTimes_1 : decode cX2_addTimes 1 = .ok (.istore_n 3, 1) := by decide +kernel
theorem dX2_addTimes_2 : decode cX2_addTimes 2 = .ok (.iload_n 3, 1) := by decide +kernel
theorem dX2_addTimes_3 : decode cX2_addTimes 3 = .ok (.aload_n 0, 1) := by decide +kernel
theorem dX2_addTimes_4 : decode cX2_addTimes 4 = .ok (.getfield 21, 3) := by decide +kernel
theorem dX2_addTimes_7 : decode cX2_addTimes 7 = .ok (.getfield 61, 3) := by decide +kernel
theorem dX2_addTimes_10 : decode cX2_addTimes 10 = .ok (.if_icmp .ge 27, 3) := by decide +kernel
theorem dX2_addTimes_13 : decode cX2_addTimes 13 = .ok (.iload_n 1, 1) := by decide +kernel
theorem dX2_addTimes_14 : decode cX2_addTimes 14 = .ok (.iload_n 3, 1) := by decide +kernel
theorem dX2_addTimes_15 : decode cX2_addTimes 15 = .ok (.invokestatic 90, 3) := by decide +kernel
theorem dX2_addTimes_18 : decode cX2_addTimes 18 = .ok (.ifCond .eq 13, 3) := by decide +kernel
theorem dX2_addTimes_21 : decode cX2_addTimes 21 = .ok (.aload_n 0, 1) := by decide +kernel
theorem dX2_addTimes_22 : decode cX2_addTimes 22 = .ok (.getfield 18, 3) := by decide +kernel
theorem dX2_addTimes_25 : decode cX2_addTimes 25 = .ok (.iload_n 3, 1) := by decide +kernel
theorem dX2_addTimes_26 : decode cX2_addTimes 26 = .ok (.dup2, 1) := by decide +kernel
theorem dX2_addTimes_27 : decode cX2_addTimes 27 = .ok (.iaload, 1) := by decide +kernel
theorem dX2_addTimes_28 : decode cX2_addTimes 28 = .ok (.iload_n 2, 1) := by decide +kernel
theorem dX2_addTimes_29 : decode cX2_addTimes 29 = .ok (.iadd, 1) := by decide +kernel
theorem dX2_addTimes_30 : decode cX2_addTimes 30 = .ok (.iastore, 1) := by decide +kernel
theorem dX2_addTimes_31 : decode cX2_addTimes 31 = .ok (.iinc 3 1, 3) := by decide +kernel
theorem dX2_addTimes_34 : decode cX2_addTimes 34 = .ok (.goto (-32), 3) := by decide +kernel
theorem dX2_addTimes_37 : decode cX2_addTimes 37 = .ok (.return_, 1) := by decide +kernel
theorem dX2_minutesLike_0 : decode cX2_minutesLike 0 = .ok (.aload_n 0, 1) := by decide +kernel
theorem dX2_minutesLike_1 : decode cX2_minutesLike 1 = .ok (.iload_n 1, 1) := by decide +kernel
theorem dX2_minutesLike_2 : decode cX2_minutesLike 2 = .ok (.iload_n 3, 1) := by decide +kernel
theorem dX2_minutesLike_3 : decode cX2_minutesLike 3 = .ok (.invokevirtual 94, 3) := by decide +kernel
theorem dX2_minutesLike_6 : decode cX2_minutesLike 6 = .ok (.aload_n 0, 1) := by decide +kernel
theorem dX2_minutesLike_7 : decode cX2_minutesLike 7 = .ok (.iload_n 1, 1) := by decide +kernel
theorem dX2_minutesLike_8 : decode cX2_minutesLike 8 = .ok (.iload_n 2, 1) := by decide +kernel
theorem dX2_minutesLike_9 : decode cX2_minutesLike 9 = .ok (.iconst 1, 1) := by decide +kernel
theorem dX2_minutesLike_10 : decode cX2_minutesLike 10 = .ok (.isub, 1) := by decide +kernel
theorem dX2_minutesLike_11 : decode cX2_minutesLike 11 = .ok (.invokevirtual 94, 3) := by decide +kernel
theorem dX2_minutesLike_14 : decode cX2_minutesLike 14 = .ok (.isub, 1) := by decide +kernel
theorem dX2_minutesLike_15 : decode cX2_minutesLike 15 = .ok (.ireturn, 1) := by decide +kernel
theorem dX2_minutesLikeTo_0 : decode cX2_minutesLikeTo 0 = .ok (.iload_n 2, 1) := by decide +kernel
theorem dX2_minutesLikeTo_1 : decode cX2_minutesLikeTo 1 = .ok (.iload_n 1, 1) := by decide +kernel
theorem dX2_minutesLikeTo_2 : decode cX2_minutesLikeTo 2 = .ok (.if_icmp .lt 14, 3) := by decide +kernel
theorem dX2_minutesLikeTo_5 : decode cX2_minutesLikeTo 5 = .ok (.aload_n 0, 1) := by decide +kernel
theorem dX2_minutesLikeTo_6 : decode cX2_minutesLikeTo 6 = .ok (.getfield 21, 3) := by decide +kernel
theorem dX2_minutesLikeTo_9 : decode cX2_minutesLikeTo 9 = .ok (.getfield 80, 3) := by decide +kernel
theorem dX2_minutesLikeTo_12 : decode cX2_minutesLikeTo 12 = .ok (.iconst 1, 1) := by decide +kernel
theorem dX2_minutesLikeTo_13 : decode cX2_minutesLikeTo 13 = .ok (.if_icmp .ge 7, 3) := by decide +kernel
theorem dX2_minutesLikeTo_16 : decode cX2_minutesLikeTo 16 = .ok (.iconst 0, 1) := by decide +kernel
theorem dX2_minutesLikeTo_17 : decode cX2_minutesLikeTo 17 = .ok (.goto 16, 3) := by decide +kernel
theorem dX2_minutesLikeTo_20 : decode cX2_minutesLikeTo 20 = .ok (.iload_n 2, 1) := by decide +kernel
theorem dX2_minutesLikeTo_21 : decode cX2_minutesLikeTo 21 = .ok (.iload_n 1, 1) := by decide +kernel
theorem dX2_minutesLikeTo_22 : decode cX2_minutesLikeTo 22 = .ok (.isub, 1) := by decide +kernel
theorem dX2_minutesLikeTo_23 : decode cX2_minutesLikeTo 23 = .ok (.aload_n 0, 1) := by decide +kernel
theorem dX2_minutesLikeTo_24 : decode cX2_minutesLikeTo 24 = .ok (.getfield 21, 3) := by decide +kernel
theorem dX2_minutesLikeTo_27 : decode cX2_minutesLikeTo 27 = .ok (.getfield 80, 3) := by decide +kernel
theorem dX2_minutesLikeTo_30 : decode cX2_minutesLikeTo 30 = .ok (.idiv, 1) := by decide +kernel
theorem dX2_minutesLikeTo_31 : decode cX2_minutesLikeTo 31 = .ok (.iconst 1, 1) := by decide +kernel
theorem dX2_minutesLikeTo_32 : decode cX2_minutesLikeTo 32 = .ok (.iadd, 1) := by decide +kernel
theorem dX2_minutesLikeTo_33 : decode cX2_minutesLikeTo 33 = .ok (.ireturn, 1) := by decide +kernel
theorem dX2_spread_0 : decode cX2_spread 0 = .ok (.iconst 0, 1) := by decide +kernel
theorem dX2_spread_1 : decode cX2_spread 1 = .ok (.istore_n 1, 1) := by decide +kernel
theorem dX2_spread_2 : decode cX2_spread 2 = .ok (.bipush 100, 2) := by decide +kernel
theorem dX2_spread_4 : decode cX2_spread 4 = .ok (.istore_n 2, 1) := by decide +kernel
theorem dX2_spread_5 : decode cX2_spread 5 = .ok (.iconst 0, 1) := by decide +kernel
theorem dX2_spread_6 : decode cX2_spread 6 = .ok (.istore_n 3, 1) := by decide +kernel
theorem dX2_spread_7 : decode cX2_spread 7 = .ok (.iload_n 3, 1) := by decide +kernel
theorem dX2_spread_8 : decode cX2_spread 8 = .ok (.aload_n 0, 1) := by decide +kernel
theorem dX2_spread_9 : decode cX2_spread 9 = .ok (.getfield 21, 3) := by decide +kernel
theorem dX2_spread_12 : decode cX2_spread 12 = .ok (.getfield 61, 3) := by decide +kernel
theorem dX2_spread_15 : decode cX2_spread 15 = .ok (.if_icmp .ge 31, 3) := by decide +kernel
theorem dX2_spread_18 : decode cX2_spread 18 = .ok (.iload_n 1, 1) := by decide +kernel
theorem dX2_spread_19 : decode cX2_spread 19 = .ok (.aload_n 0, 1) := by decide +kernel
theorem dX2_spread_20 : decode cX2_spread 20 = .ok (.getfield 18, 3) := by decide +kernel
theorem dX2_spread_23 : decode cX2_spread 23 = .ok (.iload_n 3, 1) := by decide +kernel
theorem dX2_spread_24 : decode cX2_spread 24 = .ok (.iaload, 1) := by decide +kernel
theorem dX2_spread_25 : decode cX2_spread 25 = .ok (.invokestatic 97, 3) := by decide +kernel
theorem dX2_spread_28 : decode cX2_spread 28 = .ok (.istore_n 1, 1) := by decide +kernel
theorem dX2_spread_29 : decode cX2_spread 29 = .ok (.iload_n 2, 1) := by decide +kernel
theorem dX2_spread_30 : decode cX2_spread 30 = .ok (.aload_n 0, 1) := by decide +kernel
theorem dX2_spread_31 : decode cX2_spread 31 = .ok (.getfield 18, 3) := by decide +kernel
theorem dX2_spread_34 : decode cX2_spread 34 = .ok (.iload_n 3, 1) := by decide +kernel
theorem dX2_spread_35 : decode cX2_spread 35 = .ok (.iaload, 1) := by decide +kernel
theorem dX2_spread_36 : decode cX2_spread 36 = .ok (.invokestatic 102, 3) := by decide +kernel
theorem dX2_spread_39 : decode cX2_spread 39 = .ok (.istore_n 2, 1) := by decide +kernel
theorem dX2_spread_40 : decode cX2_spread 40 = .ok (.iinc 3 1, 3) := by decide +kernel
theorem dX2_spread_43 : decode cX2_spread 43 = .ok (.goto (-36), 3) := by decide +kernel
theorem dX2_spread_46 : decode cX2_spread 46 = .ok (.aload_n 0, 1) := by decide +kernel
theorem dX2_spread_47 : decode cX2_spread 47 = .ok (.getfield 21, 3) := by decide +kernel
theorem dX2_spread_50 : decode cX2_spread 50 = .ok (.getfield 61, 3) := by decide +kernel
theorem dX2_spread_53 : decode cX2_spread 53 = .ok (.ifCond .ne 7, 3) := by decide +kernel
theorem dX2_spread_56 : decode cX2_spread 56 = .ok (.iconst 0, 1) := by decide +kernel
theorem dX2_spread_57 : decode cX2_spread 57 = .ok (.goto 6, 3) := by decide +kernel
theorem dX2_spread_60 : decode cX2_spread 60 = .ok (.iload_n 1, 1) := by decide +kernel
theorem dX2_spread_61 : decode cX2_spread 61 = .ok (.iload_n 2, 1) := by decide +kernel
theorem dX2_spread_62 : decode cX2_spread 62 = .ok (.isub, 1) := by decide +kernel
theorem dX2_spread_63 : decode cX2_spread 63 = .ok (.ireturn, 1) := by decide +kernel
theorem dX2_playRounds_0 : decode cX2_playRounds 0 = .ok (.aload_n 0, 1) := by decide +kernel
theorem dX2_playRounds_1 : decode cX2_playRounds 1 = .ok (.invokevirtual 105, 3) := by decide +kernel
theorem dX2_playRounds_4 : decode cX2_playRounds 4 = .ok (.iconst 0, 1) := by decide +kernel
theorem dX2_playRounds_5 : decode cX2_playRounds 5 = .ok (.istore_n 2, 1) := by decide +kernel
theorem dX2_playRounds_6 : decode cX2_playRounds 6 = .ok (.iload_n 2, 1) := by decide +kernel
theorem dX2_playRounds_7 : decode cX2_playRounds 7 = .ok (.bipush 6, 2) := by decide +kernel
theorem dX2_playRounds_9 : decode cX2_playRounds 9 = .ok (.if_icmp .gt 60, 3) := by decide +kernel
theorem dX2_playRounds_12 : decode cX2_playRounds 12 = .ok (.aload_n 0, 1) := by decide +kernel
theorem dX2_playRounds_13 : decode cX2_playRounds 13 = .ok (.getfield 43, 3) := by decide +kernel
theorem dX2_playRounds_16 : decode cX2_playRounds 16 = .ok (.invokestatic 108, 3) := by decide +kernel
theorem dX2_playRounds_19 : decode cX2_playRounds 19 = .ok (.iconst 1, 1) := by decide +kernel
theorem dX2_playRounds_20 : decode cX2_playRounds 20 = .ok (.if_icmp .le 49, 3) := by decide +kernel
theorem dX2_playRounds_23 : decode cX2_playRounds 23 = .ok (.aload_n 0, 1) := by decide +kernel
theorem dX2_playRounds_24 : decode cX2_playRounds 24 = .ok (.iload_n 1, 1) := by decide +kernel
theorem dX2_playRounds_25 : decode cX2_playRounds 25 = .ok (.invokevirtual 114, 3) := by decide +kernel
theorem dX2_playRounds_28 : decode cX2_playRounds 28 = .ok (.istore_n 3, 1) := by decide +kernel
theorem dX2_playRounds_29 : decode cX2_playRounds 29 = .ok (.iinc 2 1, 3) := by decide +kernel
theorem dX2_playRounds_32 : decode cX2_playRounds 32 = .ok (.iload_n 3, 1) := by decide +kernel
theorem dX2_playRounds_33 : decode cX2_playRounds 33 = .ok (.ifCond .ne 6, 3) := by decide +kernel
theorem dX2_playRounds_36 : decode cX2_playRounds 36 = .ok (.goto 33, 3) := by decide +kernel
theorem dX2_playRounds_39 : decode cX2_playRounds 39 = .ok (.aload_n 0, 1) := by decide +kernel
theorem dX2_playRounds_40 : decode cX2_playRounds 40 = .ok (.dup, 1) := by decide +kernel
theorem dX2_playRounds_41 : decode cX2_playRounds 41 = .ok (.getfield 43, 3) := by decide +kernel
theorem dX2_playRounds_44 : decode cX2_playRounds 44 = .ok (.iload_n 3, 1) := by decide +kernel
theorem dX2_playRounds_45 : decode cX2_playRounds 45 = .ok (.iconst (-1), 1) := by decide +kernel
theorem dX2_playRounds_46 : decode cX2_playRounds 46 = .ok (.ixor, 1) := by decide +kernel
theorem dX2_playRounds_47 : decode cX2_playRounds 47 = .ok (.iand, 1) := by decide +kernel
theorem dX2_playRounds_48 : decode cX2_playRounds 48 = .ok (.putfield 43, 3) := by decide +kernel
theorem dX2_playRounds_51 : decode cX2_playRounds 51 = .ok (.aload_n 0, 1) := by decide +kernel
theorem dX2_playRounds_52 : decode cX2_playRounds 52 = .ok (.dup, 1) := by decide +kernel
theorem dX2_playRounds_53 : decode cX2_playRounds 53 = .ok (.getfield 50, 3) := by decide +kernel
theorem dX2_playRounds_56 : decode cX2_playRounds 56 = .ok (.aload_n 0, 1) := by decide +kernel
theorem dX2_playRounds_57 : decode cX2_playRounds 57 = .ok (.getfield 50, 3) := by decide +kernel
theorem dX2_playRounds_60 : decode cX2_playRounds 60 = .ok (.iconst 1, 1) := by decide +kernel
theorem dX2_playRounds_61 : decode cX2_playRounds 61 = .ok (.isub, 1) := by decide +kernel
theorem dX2_playRounds_62 : decode cX2_playRounds 62 = .ok (.iand, 1) := by decide +kernel
theorem dX2_playRounds_63 : decode cX2_playRounds 63 = .ok (.putfield 50, 3) := by decide +kernel
theorem dX2_playRounds_66 : decode cX2_playRounds 66 = .ok (.goto (-60), 3) := by decide +kernel
theorem dX2_playRounds_69 : decode cX2_playRounds 69 = .ok (.iload_n 2, 1) := by decide +kernel
theorem dX2_playRounds_70 : decode cX2_playRounds 70 = .ok (.ireturn, 1) := by decide +kernel
theorem dX3_init_0 : decode cX3_init 0 = .ok (.aload_n 0, 1) := by decide +kernel
theorem dX3_init_1 : decode cX3_init 1 = .ok (.invokespecial 3, 3) := by decide +kernel
theorem dX3_init_4 : decode cX3_init 4 = .ok (.aload_n 0, 1) := by decide +kernel
theorem dX3_init_5 : decode cX3_init 5 = .ok (.bipush 6, 2) := by decide +kernel
theorem dX3_init_7 : decode cX3_init 7 = .ok (.newarray .int, 2) := by decide +kernel
theorem dX3_init_9 : decode cX3_init 9 = .ok (.putfield 9, 3) := by decide +kernel
theorem dX3_init_12 : decode cX3_init 12 = .ok (.aload_n 0, 1) := by decide +kernel
theorem dX3_init_13 : decode cX3_init 13 = .ok (.bipush 6, 2) := by decide +kernel
theorem dX3_init_15 : decode cX3_init 15 = .ok (.newarray .int, 2) := by decide +kernel
theorem dX3_init_17 : decode cX3_init 17 = .ok (.putfield 15, 3) := by decide +kernel
theorem dX3_init_20 : decode cX3_init 20 = .ok (.aload_n 0, 1) := by decide +kernel
theorem dX3_init_21 : decode cX3_init 21 = .ok (.bipush 12, 2) := by decide +kernel
theorem dX3_init_23 : decode cX3_init 23 = .ok (.newarray .int, 2) := by decide +kernel
theorem dX3_init_25 : decode cX3_init 25 = .ok (.putfield 18, 3) := by decide +kernel
theorem dX3_init_28 : decode cX3_init 28 = .ok (.aload_n 0, 1) := by decide +kernel
theorem dX3_init_29 : decode cX3_init 29 = .ok (.aload_n 1, 1) := by decide +kernel
theorem dX3_init_30 : decode cX3_init 30 = .ok (.putfield 21, 3) := by decide +kernel
theorem dX3_init_33 : decode cX3_init 33 = .ok (.return_, 1) := by decide +kernel
theorem dX3_settle_0 : decode cX3_settle 0 = .ok (.aload_n 0, 1) := by decide +kernel
theorem dX3_settle_1 : decode cX3_settle 1 = .ok (.getfield 15, 3) := by decide +kernel
theorem dX3_settle_4 : decode cX3_settle 4 = .ok (.iconst (-1), 1) := by decide +kernel
theorem dX3_settle_5 : decode cX3_settle 5 = .ok (.invokestatic 25, 3) := by decide +kernel
theorem dX3_settle_8 : decode cX3_settle 8 = .ok (.aload_n 0, 1) := by decide +kernel
theorem dX3_settle_9 : decode cX3_settle 9 = .ok (.getfield 18, 3) := by decide +kernel
theorem dX3_settle_12 : decode cX3_settle 12 = .ok (.iconst (-1), 1) := by decide +kernel
theorem dX3_settle_13 : decode cX3_settle 13 = .ok (.invokestatic 25, 3) := by decide +kernel
theorem dX3_settle_16 : decode cX3_settle 16 = .ok (.aload_n 0, 1) := by decide +kernel
theorem dX3_settle_17 : decode cX3_settle 17 = .ok (.iconst 0, 1) := by decide +kernel
theorem dX3_settle_18 : decode cX3_settle 18 = .ok (.putfield 31, 3) := by decide +kernel
theorem dX3_settle_21 : decode cX3_settle 21 = .ok (.aload_n 0, 1) := by decide +kernel
theorem dX3_settle_22 : decode cX3_settle 22 = .ok (.iload_n 2, 1) := by decide +kernel
theorem dX3_settle_23 : decode cX3_settle 23 = .ok (.putfield 35, 3) := by decide +kernel
theorem dX3_settle_26 : decode cX3_settle 26 = .ok (.aload_n 0, 1) := by decide +kernel
theorem dX3_settle_27 : decode cX3_settle 27 = .ok (.iload_n 1, 1) := by decide +kernel
theorem dX3_settle_28 : decode cX3_settle 28 = .ok (.aload_n 0, 1) := by decide +kernel
theorem dX3_settle_29 : decode cX3_settle 29 = .ok (.getfield 21, 3) := by decide +kernel
theorem dX3_settle_32 : decode cX3_settle 32 = .ok (.iconst 2, 1) := by decide +kernel
theorem dX3_settle_33 : decode cX3_settle 33 = .ok (.invokevirtual 39, 3) := by decide +kernel
theorem dX3_settle_36 : decode cX3_settle 36 = .ok (.iconst (-1), 1) := by decide +kernel
theorem dX3_settle_37 : decode cX3_settle 37 = .ok (.ixor, 1) := by decide +kernel
theorem dX3_settle_38 : decode cX3_settle 38 = .ok (.iand, 1) := by decide +kernel
theorem dX3_settle_39 : decode cX3_settle 39 = .ok (.invokevirtual 45, 3) := by decide +kernel
theorem dX3_settle_42 : decode cX3_settle 42 = .ok (.ireturn, 1) := by decide +kernel
theorem dX3_settleFaint_0 : decode cX3_settleFaint 0 = .ok (.aload_n 0, 1) := by decide +kernel
theorem dX3_settleFaint_1 : decode cX3_settleFaint 1 = .ok (.iload_n 1, 1) := by decide +kernel
theorem dX3_settleFaint_2 : decode cX3_settleFaint 2 = .ok (.aload_n 0, 1) := by decide +kernel
