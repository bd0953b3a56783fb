theorem dX6_leastAt_34 : decode cX6_leastAt 34 = .ok (.getfield 9, 3) := by decide +kernel
theorem dX6_leastAt_37 : decode cX6_leastAt 37 = .ok (.isub, 1) := by decide +kernel
theorem dX6_leastAt_38 : decode cX6_leastAt 38 = .ok (.istore 4, 2) := by decide +kernel
theorem dX6_leastAt_40 : decode cX6_leastAt 40 = .ok (.iload_n 1, 1) := by decide +kernel
theorem dX6_leastAt_41 : decode cX6_leastAt 41 = .ok (.iload_n 2, 1) := by decide +kernel
theorem dX6_leastAt_42 : decode cX6_leastAt 42 = .ok (.isub, 1) := by decide +kernel
theorem dX6_leastAt_43 : decode cX6_leastAt 43 = .ok (.ifCond .lt 9, 3) := by decide +kernel
theorem dX6_leastAt_46 : decode cX6_leastAt 46 = .ok (.iload_n 1, 1) := by decide +kernel
theorem dX6_leastAt_47 : decode cX6_leastAt 47 = .ok (.iload_n 2, 1) := by decide +kernel
theorem dX6_leastAt_48 : decode cX6_leastAt 48 = .ok (.isub, 1) := by decide +kernel
theorem dX6_leastAt_49 : decode cX6_leastAt 49 = .ok (.goto 11, 3) := by decide +kernel
theorem dX6_leastAt_52 : decode cX6_leastAt 52 = .ok (.iload_n 1, 1) := by decide +kernel
theorem dX6_leastAt_53 : decode cX6_leastAt 53 = .ok (.iload_n 2, 1) := by decide +kernel
theorem dX6_leastAt_54 : decode cX6_leastAt 54 = .ok (.isub, 1) := by decide +kernel
theorem dX6_leastAt_55 : decode cX6_leastAt 55 = .ok (.aload_n 0, 1) := by decide +kernel
theorem dX6_leastAt_56 : decode cX6_leastAt 56 = .ok (.getfield 9, 3) := by decide +kernel
theorem dX6_leastAt_59 : decode cX6_leastAt 59 = .ok (.iadd, 1) := by decide +kernel
theorem dX6_leastAt_60 : decode cX6_leastAt 60 = .ok (.istore 5, 2) := by decide +kernel
theorem dX6_leastAt_62 : decode cX6_leastAt 62 = .ok (.iload 4, 2) := by decide +kernel
theorem dX6_leastAt_64 : decode cX6_leastAt 64 = .ok (.iload 5, 2) := by decide +kernel
theorem dX6_leastAt_66 : decode cX6_leastAt 66 = .ok (.if_icmp .ge 8, 3) := by decide +kernel
theorem dX6_leastAt_69 : decode cX6_leastAt 69 = .ok (.iload 4, 2) := by decide +kernel
theorem dX6_leastAt_71 : decode cX6_leastAt 71 = .ok (.goto 5, 3) := by decide +kernel
theorem dX6_leastAt_74 : decode cX6_leastAt 74 = .ok (.iload 5, 2) := by decide +kernel
theorem dX6_leastAt_76 : decode cX6_leastAt 76 = .ok (.istore 6, 2) := by decide +kernel
theorem dX6_leastAt_78 : decode cX6_leastAt 78 = .ok (.iload_n 3, 1) := by decide +kernel
theorem dX6_leastAt_79 : decode cX6_leastAt 79 = .ok (.iload 6, 2) := by decide +kernel
theorem dX6_leastAt_81 : decode cX6_leastAt 81 = .ok (.invokestatic 47, 3) := by decide +kernel
theorem dX6_leastAt_84 : decode cX6_leastAt 84 = .ok (.ifCond .eq 6, 3) := by decide +kernel
theorem dX6_leastAt_87 : decode cX6_leastAt 87 = .ok (.iload 6, 2) := by decide +kernel
theorem dX6_leastAt_89 : decode cX6_leastAt 89 = .ok (.ireturn, 1) := by decide +kernel
theorem dX6_leastAt_90 : decode cX6_leastAt 90 = .ok (.iload 4, 2) := by decide +kernel
theorem dX6_leastAt_92 : decode cX6_leastAt 92 = .ok (.iload 5, 2) := by decide +kernel
theorem dX6_leastAt_94 : decode cX6_leastAt 94 = .ok (.iadd, 1) := by decide +kernel
theorem dX6_leastAt_95 : decode cX6_leastAt 95 = .ok (.iload 6, 2) := by decide +kernel
theorem dX6_leastAt_97 : decode cX6_leastAt 97 = .ok (.isub, 1) := by decide +kernel
theorem dX6_leastAt_98 : decode cX6_leastAt 98 = .ok (.istore 7, 2) := by decide +kernel
theorem dX6_leastAt_100 : decode cX6_leastAt 100 = .ok (.iload_n 3, 1) := by decide +kernel
theorem dX6_leastAt_101 : decode cX6_leastAt 101 = .ok (.iload 7, 2) := by decide +kernel
theorem dX6_leastAt_103 : decode cX6_leastAt 103 = .ok (.invokestatic 47, 3) := by decide +kernel
theorem dX6_leastAt_106 : decode cX6_leastAt 106 = .ok (.ifCond .eq 8, 3) := by decide +kernel
theorem dX6_leastAt_109 : decode cX6_leastAt 109 = .ok (.iload 7, 2) := by decide +kernel
theorem dX6_leastAt_111 : decode cX6_leastAt 111 = .ok (.goto 4, 3) := by decide +kernel
theorem dX6_leastAt_114 : decode cX6_leastAt 114 = .ok (.iconst (-1), 1) := by decide +kernel
theorem dX6_leastAt_115 : decode cX6_leastAt 115 = .ok (.ireturn, 1) := by decide +kernel
theorem dX6_nearestChair_0 : decode cX6_nearestChair 0 = .ok (.iconst 0, 1) := by decide +kernel
theorem dX6_nearestChair_1 : decode cX6_nearestChair 1 = .ok (.istore_n 2, 1) := by decide +kernel
theorem dX6_nearestChair_2 : decode cX6_nearestChair 2 = .ok (.iload_n 2, 1) := by decide +kernel
theorem dX6_nearestChair_3 : decode cX6_nearestChair 3 = .ok (.aload_n 0, 1) := by decide +kernel
theorem dX6_nearestChair_4 : decode cX6_nearestChair 4 = .ok (.invokevirtual 61, 3) := by decide +kernel
theorem dX6_nearestChair_7 : decode cX6_nearestChair 7 = .ok (.if_icmp .gt 25, 3) := by decide +kernel
theorem dX6_nearestChair_10 : decode cX6_nearestChair 10 = .ok (.aload_n 0, 1) := by decide +kernel
theorem dX6_nearestChair_11 : decode cX6_nearestChair 11 = .ok (.iload_n 1, 1) := by decide +kernel
theorem dX6_nearestChair_12 : decode cX6_nearestChair 12 = .ok (.iload_n 2, 1) := by decide +kernel
theorem dX6_nearestChair_13 : decode cX6_nearestChair 13 = .ok (.aload_n 0, 1) := by decide +kernel
theorem dX6_nearestChair_14 : decode cX6_nearestChair 14 = .ok (.getfield 31, 3) := by decide +kernel
theorem dX6_nearestChair_17 : decode cX6_nearestChair 17 = .ok (.invokevirtual 64, 3) := by decide +kernel
theorem dX6_nearestChair_20 : decode cX6_nearestChair 20 = .ok (.iconst (-1), 1) := by decide +kernel
theorem dX6_nearestChair_21 : decode cX6_nearestChair 21 = .ok (.if_icmp .eq 5, 3) := by decide +kernel
theorem dX6_nearestChair_24 : decode cX6_nearestChair 24 = .ok (.iload_n 2, 1) := by decide +kernel
theorem dX6_nearestChair_25 : decode cX6_nearestChair 25 = .ok (.ireturn, 1) := by decide +kernel
theorem dX6_nearestChair_26 : decode cX6_nearestChair 26 = .ok (.iinc 2 1, 3) := by decide +kernel
theorem dX6_nearestChair_29 : decode cX6_nearestChair 29 = .ok (.goto (-27), 3) := by decide +kernel
theorem dX6_nearestChair_32 : decode cX6_nearestChair 32 = .ok (.iconst (-1), 1) := by decide +kernel
theorem dX6_nearestChair_33 : decode cX6_nearestChair 33 = .ok (.ireturn, 1) := by decide +kernel
theorem dX6_allWorth_0 : decode cX6_allWorth 0 = .ok (.iconst 0, 1) := by decide +kernel
theorem dX6_allWorth_1 : decode cX6_allWorth 1 = .ok (.istore_n 1, 1) := by decide +kernel
theorem dX6_allWorth_2 : decode cX6_allWorth 2 = .ok (.iconst 0, 1) := by decide +kernel
theorem dX6_allWorth_3 : decode cX6_allWorth 3 = .ok (.istore_n 2, 1) := by decide +kernel
theorem dX6_allWorth_4 : decode cX6_allWorth 4 = .ok (.iload_n 2, 1) := by decide +kernel
theorem dX6_allWorth_5 : decode cX6_allWorth 5 = .ok (.aload_n 0, 1) := by decide +kernel
theorem dX6_allWorth_6 : decode cX6_allWorth 6 = .ok (.getfield 34, 3) := by decide +kernel
theorem dX6_allWorth_9 : decode cX6_allWorth 9 = .ok (.if_icmp .ge 18, 3) := by decide +kernel
theorem dX6_allWorth_12 : decode cX6_allWorth 12 = .ok (.iload_n 1, 1) := by decide +kernel
theorem dX6_allWorth_13 : decode cX6_allWorth 13 = .ok (.aload_n 0, 1) := by decide +kernel
theorem dX6_allWorth_14 : decode cX6_allWorth 14 = .ok (.getfield 28, 3) := by decide +kernel
theorem dX6_allWorth_17 : decode cX6_allWorth 17 = .ok (.iload_n 2, 1) := by decide +kernel
theorem dX6_allWorth_18 : decode cX6_allWorth 18 = .ok (.iaload, 1) := by decide +kernel
theorem dX6_allWorth_19 : decode cX6_allWorth 19 = .ok (.iadd, 1) := by decide +kernel
theorem dX6_allWorth_20 : decode cX6_allWorth 20 = .ok (.istore_n 1, 1) := by decide +kernel
theorem dX6_allWorth_21 : decode cX6_allWorth 21 = .ok (.iinc 2 1, 3) := by decide +kernel
theorem dX6_allWorth_24 : decode cX6_allWorth 24 = .ok (.goto (-20), 3) := by decide +kernel
theorem dX6_allWorth_27 : decode cX6_allWorth 27 = .ok (.iload_n 1, 1) := by decide +kernel
theorem dX6_allWorth_28 : decode cX6_allWorth 28 = .ok (.ireturn, 1) := by decide +kernel
theorem dX6_greatestWorth_0 : decode cX6_greatestWorth 0 = .ok (.iconst 0, 1) := by decide +kernel
theorem dX6_greatestWorth_1 : decode cX6_greatestWorth 1 = .ok (.istore_n 2, 1) := by decide +kernel
theorem dX6_greatestWorth_2 : decode cX6_greatestWorth 2 = .ok (.iconst 0, 1) := by decide +kernel
theorem dX6_greatestWorth_3 : decode cX6_greatestWorth 3 = .ok (.istore_n 3, 1) := by decide +kernel
theorem dX6_greatestWorth_4 : decode cX6_greatestWorth 4 = .ok (.iload_n 3, 1) := by decide +kernel
theorem dX6_greatestWorth_5 : decode cX6_greatestWorth 5 = .ok (.aload_n 0, 1) := by decide +kernel
theorem dX6_greatestWorth_6 : decode cX6_greatestWorth 6 = .ok (.getfield 34, 3) := by decide +kernel
theorem dX6_greatestWorth_9 : decode cX6_greatestWorth 9 = .ok (.if_icmp .ge 28, 3) := by decide +kernel
theorem dX6_greatestWorth_12 : decode cX6_greatestWorth 12 = .ok (.iload_n 1, 1) := by decide +kernel
theorem dX6_greatestWorth_13 : decode cX6_greatestWorth 13 = .ok (.iload_n 3, 1) := by decide +kernel
theorem dX6_greatestWorth_14 : decode cX6_greatestWorth 14 = .ok (.invokestatic 47, 3) := by decide +kernel
theorem dX6_greatestWorth_17 : decode cX6_greatestWorth 17 = .ok (.ifCond .eq 14, 3) := by decide +kernel
theorem dX6_greatestWorth_20 : decode cX6_greatestWorth 20 = .ok (.iload_n 2, 1) := by decide +kernel
theorem dX6_greatestWorth_21 : decode cX6_greatestWorth 21 = .ok (.aload_n 0, 1) := by decide +kernel
theorem dX6_greatestWorth_22 : decode cX6_greatestWorth 22 = .ok (.getfield 28, 3) := by decide +kernel
theorem dX6_greatestWorth_25 : decode cX6_greatestWorth 25 = .ok (.iload_n 3, 1) := by decide +kernel
theorem dX6_greatestWorth_26 : decode cX6_greatestWorth 26 = .ok (.iaload, 1) := by decide +kernel
theorem dX6_greatestWorth_27 : decode cX6_greatestWorth 27 = .ok (.invokestatic 68, 3) := by decide +kernel
theorem dX6_greatestWorth_30 : decode cX6_greatestWorth 30 = .ok (.istore_n 2, 1) := by decide +kernel
theorem dX6_greatestWorth_31 : decode cX6_greatestWorth 31 = .ok (.iinc 3 1, 3) := by decide +kernel
theorem dX6_greatestWorth_34 : decode cX6_greatestWorth 34 = .ok (.goto (-30), 3) := by decide +kernel
theorem dX6_greatestWorth_37 : decode cX6_greatestWorth 37 = .ok (.iload_n 2, 1) := by decide +kernel
theorem dX6_greatestWorth_38 : decode cX6_greatestWorth 38 = .ok (.ireturn, 1) := by decide +kernel
theorem dX6_beginInn_0 : decode cX6_beginInn 0 = .ok (.aload_n 0, 1) := by decide +kernel
theorem dX6_beginInn_1 : decode cX6_beginInn 1 = .ok (.iload_n 1, 1) := by decide +kernel
theorem dX6_beginInn_2 : decode cX6_beginInn 2 = .ok (.putfield 9, 3) := by decide +kernel
theorem dX6_beginInn_5 : decode cX6_beginInn 5 = .ok (.aload_n 0, 1) := by decide +kernel
theorem dX6_beginInn_6 : decode cX6_beginInn 6 = .ok (.iconst 0, 1) := by decide +kernel
theorem dX6_beginInn_7 : decode cX6_beginInn 7 = .ok (.putfield 31, 3) := by decide +kernel
theorem dX6_beginInn_10 : decode cX6_beginInn 10 = .ok (.aload_n 0, 1) := by decide +kernel
theorem dX6_beginInn_11 : decode cX6_beginInn 11 = .ok (.iconst 0, 1) := by decide +kernel
theorem dX6_beginInn_12 : decode cX6_beginInn 12 = .ok (.putfield 34, 3) := by decide +kernel
theorem dX6_beginInn_15 : decode cX6_beginInn 15 = .ok (.return_, 1) := by decide +kernel
theorem dX6_addGuest_0 : decode cX6_addGuest 0 = .ok (.aload_n 0, 1) := by decide +kernel
theorem dX6_addGuest_1 : decode cX6_addGuest 1 = .ok (.getfield 34, 3) := by decide +kernel
theorem dX6_addGuest_4 : decode cX6_addGuest 4 = .ok (.bipush 6, 2) := by decide +kernel
theorem dX6_addGuest_6 : decode cX6_addGuest 6 = .ok (.if_icmp .ge 9, 3) := by decide +kernel
theorem dX6_addGuest_9 : decode cX6_addGuest 9 = .ok (.aload_n 2, 1) := by decide +kernel
theorem dX6_addGuest_10 : decode cX6_addGuest 10 = .ok (.arraylength, 1) := by decide +kernel
theorem dX6_addGuest_11 : decode cX6_addGuest 11 = .ok (.iconst 4, 1) := by decide +kernel
theorem dX6_addGuest_12 : decode cX6_addGuest 12 = .ok (.if_icmp .ge 5, 3) := by decide +kernel
theorem dX6_addGuest_15 : decode cX6_addGuest 15 = .ok (.iconst 0, 1) := by decide +kernel
theorem dX6_addGuest_16 : decode cX6_addGuest 16 = .ok (.ireturn, 1) := by decide +kernel
theorem dX6_addGuest_17 : decode cX6_addGuest 17 = .ok (.aload_n 0, 1) := by decide +kernel
theorem dX6_addGuest_18 : decode cX6_addGuest 18 = .ok (.getfield 15, 3) := by decide +kernel
theorem dX6_addGuest_21 : decode cX6_addGuest 21 = .ok (.aload_n 0, 1) := by decide +kernel
theorem dX6_addGuest_22 : decode cX6_addGuest 22 = .ok (.getfield 34, 3) := by decide +kernel
theorem dX6_addGuest_25 : decode cX6_addGuest 25 = .ok (.iload_n 1, 1) := by decide +kernel
theorem dX6_addGuest_26 : decode cX6_addGuest 26 = .ok (.iastore, 1) := by decide +kernel
theorem dX6_addGuest_27 : decode cX6_addGuest 27 = .ok (.aload_n 0, 1) := by decide +kernel
theorem dX6_addGuest_28 : decode cX6_addGuest 28 = .ok (.getfield 19, 3) := by decide +kernel
theorem dX6_addGuest_31 : decode cX6_addGuest 31 = .ok (.aload_n 0, 1) := by decide +kernel
theorem dX6_addGuest_32 : decode cX6_addGuest 32 = .ok (.getfield 34, 3) := by decide +kernel
theorem dX6_addGuest_35 : decode cX6_addGuest 35 = .ok (.aload_n 2, 1) := by decide +kernel
theorem dX6_addGuest_36 : decode cX6_addGuest 36 = .ok (.iconst 0, 1) := by decide +kernel
theorem dX6_addGuest_37 : decode cX6_addGuest 37 = .ok (.iaload, 1) := by decide +kernel
theorem dX6_addGuest_38 : decode cX6_addGuest 38 = .ok (.iastore, 1) := by decide +kernel
theorem dX6_addGuest_39 : decode cX6_addGuest 39 = .ok (.aload_n 0, 1) := by decide +kernel
theorem dX6_addGuest_40 : decode cX6_addGuest 40 = .ok (.getfield 22, 3) := by decide +kernel
theorem dX6_addGuest_43 : decode cX6_addGuest 43 = .ok (.aload_n 0, 1) := by decide +kernel
theorem dX6_addGuest_44 : decode cX6_addGuest 44 = .ok (.getfield 34, 3) := by decide +kernel
theorem dX6_addGuest_47 : decode cX6_addGuest 47 = .ok (.aload_n 2, 1) := by decide +kernel
theorem dX6_addGuest_48 : decode cX6_addGuest 48 = .ok (.iconst 1, 1) := by decide +kernel
theorem dX6_addGuest_49 : decode cX6_addGuest 49 = .ok (.iaload, 1) := by decide +kernel
theorem dX6_addGuest_50 : decode cX6_addGuest 50 = .ok (.iastore, 1) := by decide +kernel
theorem dX6_addGuest_51 : decode cX6_addGuest 51 = .ok (.aload_n 0, 1) := by decide +kernel
theorem dX6_addGuest_52 : decode cX6_addGuest 52 = .ok (.getfield 25, 3) := by decide +kernel
theorem dX6_addGuest_55 : decode cX6_addGuest 55 = .ok (.aload_n 0, 1) := by decide +kernel
theorem dX6_addGuest_56 : decode cX6_addGuest 56 = .ok (.getfield 34, 3) := by decide +kernel
theorem dX6_addGuest_59 : decode cX6_addGuest 59 = .ok (.aload_n 2, 1) := by decide +kernel
theorem dX6_addGuest_60 : decode cX6_addGuest 60 = .ok (.iconst 2, 1) := by decide +kernel
theorem dX6_addGuest_61 : decode cX6_addGuest 61 = .ok (.iaload, 1) := by decide +kernel
theorem dX6_addGuest_62 : decode cX6_addGuest 62 = .ok (.iastore, 1) := by decide +kernel
theorem dX6_addGuest_63 : decode cX6_addGuest 63 = .ok (.aload_n 0, 1) := by decide +kernel
theorem dX6_addGuest_64 : decode cX6_addGuest 64 = .ok (.getfield 28, 3) := by decide +kernel
theorem dX6_addGuest_67 : decode cX6_addGuest 67 = .ok (.aload_n 0, 1) := by decide +kernel
theorem dX6_addGuest_68 : decode cX6_addGuest 68 = .ok (.getfield 34, 3) := by decide +kernel
theorem dX6_addGuest_71 : decode cX6_addGuest 71 = .ok (.aload_n 2, 1) := by decide +kernel
theorem dX6_addGuest_72 : decode cX6_addGuest 72 = .ok (.iconst 3, 1) := by decide +kernel
theorem dX6_addGuest_73 : decode cX6_addGuest 73 = .ok (.iaload, 1) := by decide +kernel
theorem dX6_addGuest_74 : decode cX6_addGuest 74 = .ok (.iastore, 1) := by decide +kernel
theorem dX6_addGuest_75 : decode cX6_addGuest 75 = .ok (.aload_n 0, 1) := by decide +kernel
theorem dX6_addGuest_76 : decode cX6_addGuest 76 = .ok (.dup, 1) := by decide +kernel
theorem dX6_addGuest_77 : decode cX6_addGuest 77 = .ok (.getfield 34, 3) := by decide +kernel
theorem dX6_addGuest_80 : decode cX6_addGuest 80 = .ok (.iconst 1, 1) := by decide +kernel
theorem dX6_addGuest_81 : decode cX6_addGuest 81 = .ok (.iadd, 1) := by decide +kernel
theorem dX6_addGuest_82 : decode cX6_addGuest 82 = .ok (.putfield 34, 3) := by decide +kernel
theorem dX6_addGuest_85 : decode cX6_addGuest 85 = .ok (.iconst 1, 1) := by decide +kernel
theorem dX6_addGuest_86 : decode cX6_addGuest 86 = .ok (.ireturn, 1) := by decide +kernel
theorem dX7_init_0 : decode cX7_init 0 = .ok (.aload_n 0, 1) := by decide +kernel
theorem dX7_init_1 : decode cX7_init 1 = .ok (.invokespecial 1, 3) := by decide +kernel
theorem dX7_init_4 : decode cX7_init 4 = .ok (.aload_n 0, 1) := by decide +kernel
theorem dX7_init_5 : decode cX7_init 5 = .ok (.new 7, 3) := by decide +kernel
theorem dX7_init_8 : decode cX7_init 8 = .ok (.dup, 1) := by decide +kernel
theorem dX7_init_9 : decode cX7_init 9 = .ok (.invokespecial 9, 3) := by decide +kernel
theorem dX7_init_12 : decode cX7_init 12 = .ok (.putfield 10, 3) := by decide +kernel
theorem dX7_init_15 : decode cX7_init 15 = .ok (.aload_n 0, 1) := by decide +kernel
theorem dX7_init_16 : decode cX7_init 16 = .ok (.new 16, 3) := by decide +kernel
theorem dX7_init_19 : decode cX7_init 19 = .ok (.dup, 1) := by decide +kernel
theorem dX7_init_20 : decode cX7_init 20 = .ok (.invokespecial 18, 3) := by decide +kernel
theorem dX7_init_23 : decode cX7_init 23 = .ok (.putfield 19, 3) := by decide +kernel
theorem dX7_init_26 : decode cX7_init 26 = .ok (.aload_n 0, 1) := by decide +kernel
theorem dX7_init_27 : decode cX7_init 27 = .ok (.new 23, 3) := by decide +kernel
theorem dX7_init_30 : decode cX7_init 30 = .ok (.dup, 1) := by decide +kernel
theorem dX7_init_31 : decode cX7_init 31 = .ok (.aload_n 0, 1) := by decide +kernel
theorem dX7_init_32 : decode cX7_init 32 = .ok (.getfield 10, 3) := by decide +kernel
theorem dX7_init_35 : decode cX7_init 35 = .ok (.invokespecial 25, 3) := by decide +kernel
theorem dX7_init_38 : decode cX7_init 38 = .ok (.putfield 28, 3) := by decide +kernel
theorem dX7_init_41 : decode cX7_init 41 = .ok (.aload_n 0, 1) := by decide +kernel
theorem dX7_init_42 : decode cX7_init 42 = .ok (.new 32, 3) := by decide +kernel
theorem dX7_init_45 : decode cX7_init 45 = .ok (.dup, 1) := by decide +kernel
theorem dX7_init_46 : decode cX7_init 46 = .ok (.aload_n 0, 1) := by decide +kernel
theorem dX7_init_47 : decode cX7_init 47 = .ok (.getfield 10, 3) := by decide +kernel
theorem dX7_init_50 : decode cX7_init 50 = .ok (.aload_n 0, 1) := by decide +kernel
theorem dX7_init_51 : decode cX7_init 51 = .ok (.getfield 28, 3) := by decide +kernel
theorem dX7_init_54 : decode cX7_init 54 = .ok (.invokespecial 34, 3) := by decide +kernel
theorem dX7_init_57 : decode cX7_init 57 = .ok (.putfield 37, 3) := by decide +kernel
theorem dX7_init_60 : decode cX7_init 60 = .ok (.aload_n 0, 1) := by decide +kernel
theorem dX7_init_61 : decode cX7_init 61 = .ok (.new 41, 3) := by decide +kernel
theorem dX7_init_64 : decode cX7_init 64 = .ok (.dup, 1) := by decide +kernel
theorem dX7_init_65 : decode cX7_init 65 = .ok (.aload_n 0, 1) := by decide +kernel
theorem dX7_init_66 : decode cX7_init 66 = .ok (.getfield 10, 3) := by decide +kernel
theorem dX7_init_69 : decode cX7_init 69 = .ok (.aload_n 0, 1) := by decide +kernel
theorem dX7_init_70 : decode cX7_init 70 = .ok (.getfield 37, 3) := by decide +kernel
theorem dX7_init_73 : decode cX7_init 73 = .ok (.invokespecial 43, 3) := by decide +kernel
theorem dX7_init_76 : decode cX7_init 76 = .ok (.putfield 46, 3) := by decide +kernel
theorem dX7_init_79 : decode cX7_init 79 = .ok (.aload_n 0, 1) := by decide +kernel
theorem dX7_init_80 : decode cX7_init 80 = .ok (.new 50, 3) := by decide +kernel
theorem dX7_init_83 : decode cX7_init 83 = .ok (.dup, 1) := by decide +kernel
theorem dX7_init_84 : decode cX7_init 84 = .ok (.invokespecial 52, 3) := by decide +kernel
theorem dX7_init_87 : decode cX7_init 87 = .ok (.putfield 53, 3) := by decide +kernel
theorem dX7_init_90 : decode cX7_init 90 = .ok (.aload_n 0, 1) := by decide +kernel
theorem dX7_init_91 : decode cX7_init 91 = .ok (.new 50, 3) := by decide +kernel
theorem dX7_init_94 : decode cX7_init 94 = .ok (.dup, 1) := by decide +kernel
theorem dX7_init_95 : decode cX7_init 95 = .ok (.invokespecial 52, 3) := by decide +kernel
theorem dX7_init_98 : decode cX7_init 98 = .ok (.putfield 57, 3) := by decide +kernel
theorem dX7_init_101 : decode cX7_init 101 = .ok (.aload_n 0, 1) := by decide +kernel
theorem dX7_init_102 : decode cX7_init 102 = .ok (.new 50, 3) := by decide +kernel
theorem dX7_init_105 : decode cX7_init 105 = .ok (.dup, 1) := by decide +kernel
theorem dX7_init_106 : decode cX7_init 106 = .ok (.invokespecial 52, 3) := by decide +kernel
theorem dX7_init_109 : decode cX7_init 109 = .ok (.putfield 60, 3) := by decide +kernel
theorem dX7_init_112 : decode cX7_init 112 = .ok (.aload_n 0, 1) := by decide +kernel
theorem dX7_init_113 : decode cX7_init 113 = .ok (.new 63, 3) := by decide +kernel
theorem dX7_init_116 : decode cX7_init 116 = .ok (.dup, 1) := by decide +kernel
theorem dX7_init_117 : decode cX7_init 117 = .ok (.invokespecial 65, 3) := by decide +kernel
theorem dX7_init_120 : decode cX7_init 120 = .ok (.putfield 66, 3) := by decide +kernel
theorem dX7_init_123 : decode cX7_init 123 = .ok (.return_, 1) := by decide +kernel
theorem dX7_write_0 : decode cX7_write 0 = .ok (.iload_n 3, 1) := by decide +kernel
theorem dX7_write_1 : decode cX7_write 1 = .ok (.iconst 1, 1) := by decide +kernel
theorem dX7_write_2 : decode cX7_write 2 = .ok (.if_icmp .lt 9, 3) := by decide +kernel
theorem dX7_write_5 : decode cX7_write 5 = .ok (.iload_n 3, 1) := by decide +kernel
theorem dX7_write_6 : decode cX7_write 6 = .ok (.bipush 8, 2) := by decide +kernel
theorem dX7_write_8 : decode cX7_write 8 = .ok (.if_icmp .le 6, 3) := by decide +kernel
theorem dX7_write_11 : decode cX7_write 11 = .ok (.bipush (-3), 2) := by decide +kernel
theorem dX7_write_13 : decode cX7_write 13 = .ok (.ireturn, 1) := by decide +kernel
theorem dX7_write_14 : decode cX7_write 14 = .ok (.aload_n 0, 1) := by decide +kernel
theorem dX7_write_15 : decode cX7_write 15 = .ok (.getfield 19, 3) := by decide +kernel
theorem dX7_write_18 : decode cX7_write 18 = .ok (.getfield 70, 3) := by decide +kernel
theorem dX7_write_21 : decode cX7_write 21 = .ok (.iload_n 3, 1) := by decide +kernel
theorem dX7_write_22 : decode cX7_write 22 = .ok (.iadd, 1) := by decide +kernel
theorem dX7_write_23 : decode cX7_write 23 = .ok (.sipush 200, 3) := by decide +kernel
theorem dX7_write_26 : decode cX7_write 26 = .ok (.if_icmp .le 6, 3) := by decide +kernel
theorem dX7_write_29 : decode cX7_write 29 = .ok (.bipush (-5), 2) := by decide +kernel
theorem dX7_write_31 : decode cX7_write 31 = .ok (.ireturn, 1) := by decide +kernel
theorem dX7_write_32 : decode cX7_write 32 = .ok (.iconst 0, 1) := by decide +kernel
theorem dX7_write_33 : decode cX7_write 33 = .ok (.istore 4, 2) := by decide +kernel
theorem dX7_write_35 : decode cX7_write 35 = .ok (.iload 4, 2) := by decide +kernel
theorem dX7_write_37 : decode cX7_write 37 = .ok (.iload_n 3, 1) := by decide +kernel
theorem dX7_write_38 : decode cX7_write 38 = .ok (.if_icmp .ge 28, 3) := by decide +kernel
theorem dX7_write_41 : decode cX7_write 41 = .ok (.aload_n 0, 1) := by decide +kernel
theorem dX7_write_42 : decode cX7_write 42 = .ok (.getfield 19, 3) := by decide +kernel
theorem dX7_write_45 : decode cX7_write 45 = .ok (.lload_n 1, 1) := by decide +kernel
theorem dX7_write_46 : decode cX7_write 46 = .ok (.bipush 8, 2) := by decide +kernel
theorem dX7_write_48 : decode cX7_write 48 = .ok (.iload 4, 2) := by decide +kernel
theorem dX7_write_50 : decode cX7_write 50 = .ok (.imul, 1) := by decide +kernel
theorem dX7_write_51 : decode cX7_write 51 = .ok (.lshr, 1) := by decide +kernel
theorem dX7_write_52 : decode cX7_write 52 = .ok (.ldc2_w 74, 3) := by decide +kernel
theorem dX7_write_55 : decode cX7_write 55 = .ok (.land, 1) := by decide +kernel
theorem dX7_write_56 : decode cX7_write 56 = .ok (.l2i, 1) := by decide +kernel
theorem dX7_write_57 : decode cX7_write 57 = .ok (.invokevirtual 76, 3) := by decide +kernel
theorem dX7_write_60 : decode cX7_write 60 = .ok (.iinc 4 1, 3) := by decide +kernel
theorem dX7_write_63 : decode cX7_write 63 = .ok (.goto (-28), 3) := by decide +kernel
theorem dX7_write_66 : decode cX7_write 66 = .ok (.aload_n 0, 1) := by decide +kernel
theorem dX7_write_67 : decode cX7_write 67 = .ok (.getfield 19, 3) := by decide +kernel
theorem dX7_write_70 : decode cX7_write 70 = .ok (.getfield 70, 3) := by decide +kernel
theorem dX7_write_73 : decode cX7_write 73 = .ok (.ireturn, 1) := by decide +kernel
theorem dX7_erase_0 : decode cX7_erase 0 = .ok (.aload_n 0, 1) := by decide +kernel
theorem dX7_erase_1 : decode cX7_erase 1 = .ok (.getfield 19, 3) := by decide +kernel
theorem dX7_erase_4 : decode cX7_erase 4 = .ok (.getfield 70, 3) := by decide +kernel
theorem dX7_erase_7 : decode cX7_erase 7 = .ok (.istore_n 1, 1) := by decide +kernel
theorem dX7_erase_8 : decode cX7_erase 8 = .ok (.aload_n 0, 1) := by decide +kernel
theorem dX7_erase_9 : decode cX7_erase 9 = .ok (.getfield 19, 3) := by decide +kernel
theorem dX7_erase_12 : decode cX7_erase 12 = .ok (.iconst 0, 1) := by decide +kernel
theorem dX7_erase_13 : decode cX7_erase 13 = .ok (.putfield 70, 3) := by decide +kernel
theorem dX7_erase_16 : decode cX7_erase 16 = .ok (.iload_n 1, 1) := by decide +kernel
theorem dX7_erase_17 : decode cX7_erase 17 = .ok (.ireturn, 1) := by decide +kernel
theorem dX7_fault_0 : decode cX7_fault 0 = .ok (.aload_n 0, 1) := by decide +kernel
theorem dX7_fault_1 : decode cX7_fault 1 = .ok (.getfield 19, 3) := by decide +kernel
theorem dX7_fault_4 : decode cX7_fault 4 = .ok (.aload_n 0, 1) := by decide +kernel
theorem dX7_fault_5 : decode cX7_fault 5 = .ok (.getfield 10, 3) := by decide +kernel
theorem dX7_fault_8 : decode cX7_fault 8 = .ok (.invokevirtual 80, 3) := by decide +kernel
theorem dX7_fault_11 : decode cX7_fault 11 = .ok (.ireturn, 1) := by decide +kernel
theorem dX7_inn_0 : decode cX7_inn 0 = .ok (.aload_n 0, 1) := by decide +kernel
theorem dX7_inn_1 : decode cX7_inn 1 = .ok (.getfield 19, 3) := by decide +kernel
theorem dX7_inn_4 : decode cX7_inn 4 = .ok (.aload_n 0, 1) := by decide +kernel
theorem dX7_inn_5 : decode cX7_inn 5 = .ok (.getfield 10, 3) := by decide +kernel
theorem dX7_inn_8 : decode cX7_inn 8 = .ok (.invokevirtual 80, 3) := by decide +kernel
theorem dX7_inn_11 : decode cX7_inn 11 = .ok (.iconst (-1), 1) := by decide +kernel
theorem dX7_inn_12 : decode cX7_inn 12 = .ok (.if_icmp .eq 6, 3) := by decide +kernel
theorem dX7_inn_15 : decode cX7_inn 15 = .ok (.bipush (-4), 2) := by decide +kernel
theorem dX7_inn_17 : decode cX7_inn 17 = .ok (.ireturn, 1) := by decide +kernel
theorem dX7_inn_18 : decode cX7_inn 18 = .ok (.aload_n 0, 1) := by decide +kernel
theorem dX7_inn_19 : decode cX7_inn 19 = .ok (.getfield 10, 3) := by decide +kernel
theorem dX7_inn_22 : decode cX7_inn 22 = .ok (.aload_n 0, 1) := by decide +kernel
theorem dX7_inn_23 : decode cX7_inn 23 = .ok (.getfield 19, 3) := by decide +kernel
theorem dX7_inn_26 : decode cX7_inn 26 = .ok (.getfield 84, 3) := by decide +kernel
theorem dX7_inn_29 : decode cX7_inn 29 = .ok (.invokevirtual 87, 3) := by decide +kernel
theorem dX7_inn_32 : decode cX7_inn 32 = .ok (.aload_n 0, 1) := by decide +kernel
theorem dX7_inn_33 : decode cX7_inn 33 = .ok (.getfield 19, 3) := by decide +kernel
theorem dX7_inn_36 : decode cX7_inn 36 = .ok (.iconst 0, 1) := by decide +kernel
theorem dX7_inn_37 : decode cX7_inn 37 = .ok (.putfield 70, 3) := by decide +kernel
theorem dX7_inn_40 : decode cX7_inn 40 = .ok (.aload_n 0, 1) := by decide +kernel
theorem dX7_inn_41 : decode cX7_inn 41 = .ok (.getfield 53, 3) := by decide +kernel
theorem dX7_inn_44 : decode cX7_inn 44 = .ok (.aload_n 0, 1) := by decide +kernel
theorem dX7_inn_45 : decode cX7_inn 45 = .ok (.getfield 10, 3) := by decide +kernel
theorem dX7_inn_48 : decode cX7_inn 48 = .ok (.invokevirtual 90, 3) := by decide +kernel
theorem dX7_inn_51 : decode cX7_inn 51 = .ok (.aload_n 0, 1) := by decide +kernel
theorem dX7_inn_52 : decode cX7_inn 52 = .ok (.getfield 57, 3) := by decide +kernel
theorem dX7_inn_55 : decode cX7_inn 55 = .ok (.iconst 0, 1) := by decide +kernel
theorem dX7_inn_56 : decode cX7_inn 56 = .ok (.putfield 93, 3) := by decide +kernel
theorem dX7_inn_59 : decode cX7_inn 59 = .ok (.aload_n 0, 1) := by decide +kernel
theorem dX7_inn_60 : decode cX7_inn 60 = .ok (.getfield 60, 3) := by decide +kernel
theorem dX7_inn_63 : decode cX7_inn 63 = .ok (.iconst 0, 1) := by decide +kernel
theorem dX7_inn_64 : decode cX7_inn 64 = .ok (.putfield 93, 3) := by decide +kernel
theorem dX7_inn_67 : decode cX7_inn 67 = .ok (.aload_n 0, 1) := by decide +kernel
theorem dX7_inn_68 : decode cX7_inn 68 = .ok (.getfield 66, 3) := by decide +kernel
theorem dX7_inn_71 : decode cX7_inn 71 = .ok (.iconst 0, 1) := by decide +kernel
theorem dX7_inn_72 : decode cX7_inn 72 = .ok (.putfield 97, 3) := by decide +kernel
theorem dX7_inn_75 : decode cX7_inn 75 = .ok (.aload_n 0, 1) := by decide +kernel
theorem dX7_inn_76 : decode cX7_inn 76 = .ok (.getfield 19, 3) := by decide +kernel
theorem dX7_inn_79 : decode cX7_inn 79 = .ok (.getfield 100, 3) := by decide +kernel
theorem dX7_inn_82 : decode cX7_inn 82 = .ok (.ireturn, 1) := by decide +kernel
theorem dX7_place_0 : decode cX7_place 0 = .ok (.aload_n 0, 1) := by decide +kernel
theorem dX7_place_1 : decode cX7_place 1 = .ok (.getfield 10, 3) := by decide +kernel
theorem dX7_place_4 : decode cX7_place 4 = .ok (.iload_n 1, 1) := by decide +kernel
theorem dX7_place_5 : decode cX7_place 5 = .ok (.invokevirtual 103, 3) := by decide +kernel
theorem dX7_place_8 : decode cX7_place 8 = .ok (.ifCond .ne 6, 3) := by decide +kernel
theorem dX7_place_11 : decode cX7_place 11 = .ok (.bipush (-2), 2) := by decide +kernel
theorem dX7_place_13 : decode cX7_place 13 = .ok (.ireturn, 1) := by decide +kernel
theorem dX7_place_14 : decode cX7_place 14 = .ok (.iload_n 2, 1) := by decide +kernel
theorem dX7_place_15 : decode cX7_place 15 = .ok (.tableswitch 68 0 2 #[25, 42, 52], 25) := by decide +kernel
theorem dX7_place_40 : decode cX7_place 40 = .ok (.aload_n 0, 1) := by decide +kernel
theorem dX7_place_41 : decode cX7_place 41 = .ok (.getfield 10, 3) := by decide +kernel
theorem dX7_place_44 : decode cX7_place 44 = .ok (.iload_n 1, 1) := by decide +kernel
theorem dX7_place_45 : decode cX7_place 45 = .ok (.invokevirtual 107, 3) := by decide +kernel
theorem dX7_place_48 : decode cX7_place 48 = .ok (.ifCond .eq 7, 3) := by decide +kernel
theorem dX7_place_51 : decode cX7_place 51 = .ok (.iconst 1, 1) := by decide +kernel
theorem dX7_place_52 : decode cX7_place 52 = .ok (.goto 4, 3) := by decide +kernel
theorem dX7_place_55 : decode cX7_place 55 = .ok (.iconst 0, 1) := by decide +kernel
theorem dX7_place_56 : decode cX7_place 56 = .ok (.ireturn, 1) := by decide +kernel
theorem dX7_place_57 : decode cX7_place 57 = .ok (.aload_n 0, 1) := by decide +kernel
theorem dX7_place_58 : decode cX7_place 58 = .ok (.getfield 53, 3) := by decide +kernel
theorem dX7_place_61 : decode cX7_place 61 = .ok (.getfield 110, 3) := by decide +kernel
theorem dX7_place_64 : decode cX7_place 64 = .ok (.iload_n 1, 1) := by decide +kernel
theorem dX7_place_65 : decode cX7_place 65 = .ok (.iaload, 1) := by decide +kernel
theorem dX7_place_66 : decode cX7_place 66 = .ok (.ireturn, 1) := by decide +kernel
theorem dX7_place_67 : decode cX7_place 67 = .ok (.aload_n 0, 1) := by decide +kernel
theorem dX7_place_68 : decode cX7_place 68 = .ok (.getfield 53, 3) := by decide +kernel
theorem dX7_place_71 : decode cX7_place 71 = .ok (.iload_n 1, 1) := by decide +kernel
theorem dX7_place_72 : decode cX7_place 72 = .ok (.aload_n 0, 1) := by decide +kernel
theorem dX7_place_73 : decode cX7_place 73 = .ok (.getfield 10, 3) := by decide +kernel
theorem dX7_place_76 : decode cX7_place 76 = .ok (.getfield 114, 3) := by decide +kernel
theorem dX7_place_79 : decode cX7_place 79 = .ok (.invokevirtual 117, 3) := by decide +kernel
theorem dX7_place_82 : decode cX7_place 82 = .ok (.ireturn, 1) := by decide +kernel
theorem dX7_place_83 : decode cX7_place 83 = .ok (.bipush (-3), 2) := by decide +kernel
theorem dX7_place_85 : decode cX7_place 85 = .ok (.ireturn, 1) := by decide +kernel
theorem dX7_guest_0 : decode cX7_guest 0 = .ok (.aload_n 0, 1) := by decide +kernel
theorem dX7_guest_1 : decode cX7_guest 1 = .ok (.getfield 10, 3) := by decide +kernel
theorem dX7_guest_4 : decode cX7_guest 4 = .ok (.iload_n 1, 1) := by decide +kernel
theorem dX7_guest_5 : decode cX7_guest 5 = .ok (.invokevirtual 121, 3) := by decide +kernel
theorem dX7_guest_8 : decode cX7_guest 8 = .ok (.ifCond .ne 6, 3) := by decide +kernel
theorem dX7_guest_11 : decode cX7_guest 11 = .ok (.bipush (-2), 2) := by decide +kernel
theorem dX7_guest_13 : decode cX7_guest 13 = .ok (.ireturn, 1) := by decide +kernel
theorem dX7_guest_14 : decode cX7_guest 14 = .ok (.iload_n 2, 1) := by decide +kernel
theorem dX7_guest_15 : decode cX7_guest 15 = .ok (.tableswitch 111 0 6 #[41, 51, 61, 71, 81, 91, 101], 41) := by decide +kernel
theorem dX7_guest_56 : decode cX7_guest 56 = .ok (.aload_n 0, 1) := by decide +kernel
theorem dX7_guest_57 : decode cX7_guest 57 = .ok (.getfield 10, 3) := by decide +kernel
theorem dX7_guest_60 : decode cX7_guest 60 = .ok (.getfield 124, 3) := by decide +kernel
theorem dX7_guest_63 : decode cX7_guest 63 = .ok (.iload_n 1, 1) := by decide +kernel
theorem dX7_guest_64 : decode cX7_guest 64 = .ok (.iaload, 1) := by decide +kernel
theorem dX7_guest_65 : decode cX7_guest 65 = .ok (.ireturn, 1) := by decide +kernel
theorem dX7_guest_66 : decode cX7_guest 66 = .ok (.aload_n 0, 1) := by decide +kernel
theorem dX7_guest_67 : decode cX7_guest 67 = .ok (.getfield 53, 3) := by decide +kernel
theorem dX7_guest_70 : decode cX7_guest 70 = .ok (.getfield 127, 3) := by decide +kernel
theorem dX7_guest_73 : decode cX7_guest 73 = .ok (.iload_n 1, 1) := by decide +kernel
theorem dX7_guest_74 : decode cX7_guest 74 = .ok (.iaload, 1) := by decide +kernel
theorem dX7_guest_75 : decode cX7_guest 75 = .ok (.ireturn, 1) := by decide +kernel
theorem dX7_guest_76 : decode cX7_guest 76 = .ok (.aload_n 0, 1) := by decide +kernel
theorem dX7_guest_77 : decode cX7_guest 77 = .ok (.getfield 10, 3) := by decide +kernel
theorem dX7_guest_80 : decode cX7_guest 80 = .ok (.getfield 130, 3) := by decide +kernel
theorem dX7_guest_83 : decode cX7_guest 83 = .ok (.iload_n 1, 1) := by decide +kernel
theorem dX7_guest_84 : decode cX7_guest 84 = .ok (.iaload, 1) := by decide +kernel
theorem dX7_guest_85 : decode cX7_guest 85 = .ok (.ireturn, 1) := by decide +kernel
theorem dX7_guest_86 : decode cX7_guest 86 = .ok (.aload_n 0, 1) := by decide +kernel
theorem dX7_guest_87 : decode cX7_guest 87 = .ok (.getfield 10, 3) := by decide +kernel
theorem dX7_guest_90 : decode cX7_guest 90 = .ok (.getfield 133, 3) := by decide +kernel
theorem dX7_guest_93 : decode cX7_guest 93 = .ok (.iload_n 1, 1) := by decide +kernel
theorem dX7_guest_94 : decode cX7_guest 94 = .ok (.iaload, 1) := by decide +kernel
theorem dX7_guest_95 : decode cX7_guest 95 = .ok (.ireturn, 1) := by decide +kernel
theorem dX7_guest_96 : decode cX7_guest 96 = .ok (.aload_n 0, 1) := by decide +kernel
theorem dX7_guest_97 : decode cX7_guest 97 = .ok (.getfield 10, 3) := by decide +kernel
theorem dX7_guest_100 : decode cX7_guest 100 = .ok (.getfield 136, 3) := by decide +kernel
theorem dX7_guest_103 : decode cX7_guest 103 = .ok (.iload_n 1, 1) := by decide +kernel
theorem dX7_guest_104 : decode cX7_guest 104 = .ok (.iaload, 1) := by decide +kernel
theorem dX7_guest_105 : decode cX7_guest 105 = .ok (.ireturn, 1) := by decide +kernel
theorem dX7_guest_106 : decode cX7_guest 106 = .ok (.aload_n 0, 1) := by decide +kernel
theorem dX7_guest_107 : decode cX7_guest 107 = .ok (.getfield 53, 3) := by decide +kernel
theorem dX7_guest_110 : decode cX7_guest 110 = .ok (.getfield 139, 3) := by decide +kernel
theorem dX7_guest_113 : decode cX7_guest 113 = .ok (.iload_n 1, 1) := by decide +kernel
theorem dX7_guest_114 : decode cX7_guest 114 = .ok (.iaload, 1) := by decide +kernel
theorem dX7_guest_115 : decode cX7_guest 115 = .ok (.ireturn, 1) := by decide +kernel
theorem dX7_guest_116 : decode cX7_guest 116 = .ok (.aload_n 0, 1) := by decide +kernel
theorem dX7_guest_117 : decode cX7_guest 117 = .ok (.getfield 53, 3) := by decide +kernel
theorem dX7_guest_120 : decode cX7_guest 120 = .ok (.getfield 142, 3) := by decide +kernel
theorem dX7_guest_123 : decode cX7_guest 123 = .ok (.iload_n 1, 1) := by decide +kernel
theorem dX7_guest_124 : decode cX7_guest 124 = .ok (.iaload, 1) := by decide +kernel
theorem dX7_guest_125 : decode cX7_guest 125 = .ok (.ireturn, 1) := by decide +kernel
theorem dX7_guest_126 : decode cX7_guest 126 = .ok (.bipush (-3), 2) := by decide +kernel
theorem dX7_guest_128 : decode cX7_guest 128 = .ok (.ireturn, 1) := by decide +kernel
theorem dX7_as_0 : decode cX7_as 0 = .ok (.aload_n 0, 1) := by decide +kernel
theorem dX7_as_1 : decode cX7_as 1 = .ok (.getfield 10, 3) := by decide +kernel
theorem dX7_as_4 : decode cX7_as 4 = .ok (.iload_n 1, 1) := by decide +kernel
theorem dX7_as_5 : decode cX7_as 5 = .ok (.invokevirtual 121, 3) := by decide +kernel
theorem dX7_as_8 : decode cX7_as 8 = .ok (.ifCond .ne 6, 3) := by decide +kernel
theorem dX7_as_11 : decode cX7_as 11 = .ok (.bipush (-2), 2) := by decide +kernel
theorem dX7_as_13 : decode cX7_as 13 = .ok (.ireturn, 1) := by decide +kernel
theorem dX7_as_14 : decode cX7_as 14 = .ok (.iload_n 2, 1) := by decide +kernel
theorem dX7_as_15 : decode cX7_as 15 = .ok (.ifCond .lt 8, 3) := by decide +kernel
theorem dX7_as_18 : decode cX7_as 18 = .ok (.iload_n 2, 1) := by decide +kernel
theorem dX7_as_19 : decode cX7_as 19 = .ok (.iconst 4, 1) := by decide +kernel
theorem dX7_as_20 : decode cX7_as 20 = .ok (.if_icmp .le 6, 3) := by decide +kernel
theorem dX7_as_23 : decode cX7_as 23 = .ok (.bipush (-3), 2) := by decide +kernel
theorem dX7_as_25 : decode cX7_as 25 = .ok (.ireturn, 1) := by decide +kernel
theorem dX7_as_26 : decode cX7_as 26 = .ok (.aload_n 0, 1) := by decide +kernel
theorem dX7_as_27 : decode cX7_as 27 = .ok (.getfield 10, 3) := by decide +kernel
theorem dX7_as_30 : decode cX7_as 30 = .ok (.iload_n 1, 1) := by decide +kernel
theorem dX7_as_31 : decode cX7_as 31 = .ok (.iload_n 2, 1) := by decide +kernel
theorem dX7_as_32 : decode cX7_as 32 = .ok (.invokevirtual 145, 3) := by decide +kernel
theorem dX7_as_35 : decode cX7_as 35 = .ok (.ifCond .ne 6, 3) := by decide +kernel
theorem dX7_as_38 : decode cX7_as 38 = .ok (.bipush (-4), 2) := by decide +kernel
theorem dX7_as_40 : decode cX7_as 40 = .ok (.ireturn, 1) := by decide +kernel
theorem dX7_as_41 : decode cX7_as 41 = .ok (.aload_n 0, 1) := by decide +kernel
theorem dX7_as_42 : decode cX7_as 42 = .ok (.getfield 10, 3) := by decide +kernel
theorem dX7_as_45 : decode cX7_as 45 = .ok (.aload_n 0, 1) := by decide +kernel
theorem dX7_as_46 : decode cX7_as 46 = .ok (.getfield 53, 3) := by decide +kernel
theorem dX7_as_49 : decode cX7_as 49 = .ok (.getfield 127, 3) := by decide +kernel
theorem dX7_as_52 : decode cX7_as 52 = .ok (.iload_n 1, 1) := by decide +kernel
theorem dX7_as_53 : decode cX7_as 53 = .ok (.iaload, 1) := by decide +kernel
theorem dX7_as_54 : decode cX7_as 54 = .ok (.invokevirtual 149, 3) := by decide +kernel
theorem dX7_as_57 : decode cX7_as 57 = .ok (.istore_n 3, 1) := by decide +kernel
theorem dX7_as_58 : decode cX7_as 58 = .ok (.iload_n 3, 1) := by decide +kernel
theorem dX7_as_59 : decode cX7_as 59 = .ok (.iconst (-1), 1) := by decide +kernel
theorem dX7_as_60 : decode cX7_as 60 = .ok (.if_icmp .ne 7, 3) := by decide +kernel
theorem dX7_as_63 : decode cX7_as 63 = .ok (.iconst (-1), 1) := by decide +kernel
theorem dX7_as_64 : decode cX7_as 64 = .ok (.goto 16, 3) := by decide +kernel
theorem dX7_as_67 : decode cX7_as 67 = .ok (.bipush 100, 2) := by decide +kernel
theorem dX7_as_69 : decode cX7_as 69 = .ok (.iload_n 3, 1) := by decide +kernel
theorem dX7_as_70 : decode cX7_as 70 = .ok (.iadd, 1) := by decide +kernel
theorem dX7_as_71 : decode cX7_as 71 = .ok (.aload_n 0, 1) := by decide +kernel
theorem dX7_as_72 : decode cX7_as 72 = .ok (.getfield 10, 3) := by decide +kernel
theorem dX7_as_75 : decode cX7_as 75 = .ok (.iload_n 1, 1) := by decide +kernel
theorem dX7_as_76 : decode cX7_as 76 = .ok (.invokevirtual 153, 3) := by decide +kernel
theorem dX7_as_79 : decode cX7_as 79 = .ok (.isub, 1) := by decide +kernel
theorem dX7_as_80 : decode cX7_as 80 = .ok (.ireturn, 1) := by decide +kernel
theorem dX7_walk_0 : decode cX7_walk 0 = .ok (.iload_n 1, 1) := by decide +kernel
theorem dX7_walk_1 : decode cX7_walk 1 = .ok (.iconst 1, 1) := by decide +kernel
theorem dX7_walk_2 : decode cX7_walk 2 = .ok (.if_icmp .lt 9, 3) := by decide +kernel
theorem dX7_walk_5 : decode cX7_walk 5 = .ok (.iload_n 1, 1) := by decide +kernel
theorem dX7_walk_6 : decode cX7_walk 6 = .ok (.bipush 99, 2) := by decide +kernel
theorem dX7_walk_8 : decode cX7_walk 8 = .ok (.if_icmp .le 6, 3) := by decide +kernel
theorem dX7_walk_11 : decode cX7_walk 11 = .ok (.bipush (-3), 2) := by decide +kernel
theorem dX7_walk_13 : decode cX7_walk 13 = .ok (.ireturn, 1) := by decide +kernel
theorem dX7_walk_14 : decode cX7_walk 14 = .ok (.aload_n 0, 1) := by decide +kernel
theorem dX7_walk_15 : decode cX7_walk 15 = .ok (.getfield 53, 3) := by decide +kernel
theorem dX7_walk_18 : decode cX7_walk 18 = .ok (.getfield 156, 3) := by decide +kernel
theorem dX7_walk_21 : decode cX7_walk 21 = .ok (.ifCond .ne 6, 3) := by decide +kernel
theorem dX7_walk_24 : decode cX7_walk 24 = .ok (.bipush (-4), 2) := by decide +kernel
theorem dX7_walk_26 : decode cX7_walk 26 = .ok (.ireturn, 1) := by decide +kernel
theorem dX7_walk_27 : decode cX7_walk 27 = .ok (.aload_n 0, 1) := by decide +kernel
theorem dX7_walk_28 : decode cX7_walk 28 = .ok (.getfield 53, 3) := by decide +kernel
theorem dX7_walk_31 : decode cX7_walk 31 = .ok (.getfield 159, 3) := by decide +kernel
theorem dX7_walk_34 : decode cX7_walk 34 = .ok (.iload_n 1, 1) := by decide +kernel
theorem dX7_walk_35 : decode cX7_walk 35 = .ok (.iadd, 1) := by decide +kernel
theorem dX7_walk_36 : decode cX7_walk 36 = .ok (.sipush 9999, 3) := by decide +kernel
theorem dX7_walk_39 : decode cX7_walk 39 = .ok (.if_icmp .le 6, 3) := by decide +kernel
theorem dX7_walk_42 : decode cX7_walk 42 = .ok (.bipush (-5), 2) := by decide +kernel
theorem dX7_walk_44 : decode cX7_walk 44 = .ok (.ireturn, 1) := by decide +kernel
theorem dX7_walk_45 : decode cX7_walk 45 = .ok (.aload_n 0, 1) := by decide +kernel
theorem dX7_walk_46 : decode cX7_walk 46 = .ok (.getfield 53, 3) := by decide +kernel
theorem dX7_walk_49 : decode cX7_walk 49 = .ok (.aload_n 0, 1) := by decide +kernel
theorem dX7_walk_50 : decode cX7_walk 50 = .ok (.getfield 10, 3) := by decide +kernel
theorem dX7_walk_53 : decode cX7_walk 53 = .ok (.iload_n 1, 1) := by decide +kernel
theorem dX7_walk_54 : decode cX7_walk 54 = .ok (.invokevirtual 162, 3) := by decide +kernel
theorem dX7_walk_57 : decode cX7_walk 57 = .ok (.aload_n 0, 1) := by decide +kernel
theorem dX7_walk_58 : decode cX7_walk 58 = .ok (.getfield 53, 3) := by decide +kernel
theorem dX7_walk_61 : decode cX7_walk 61 = .ok (.getfield 159, 3) := by decide +kernel
theorem dX7_walk_64 : decode cX7_walk 64 = .ok (.ireturn, 1) := by decide +kernel
theorem dX7_stop_0 : decode cX7_stop 0 = .ok (.aload_n 0, 1) := by decide +kernel
theorem dX7_stop_1 : decode cX7_stop 1 = .ok (.getfield 53, 3) := by decide +kernel
theorem dX7_stop_4 : decode cX7_stop 4 = .ok (.getfield 156, 3) := by decide +kernel
theorem dX7_stop_7 : decode cX7_stop 7 = .ok (.ifCond .ne 6, 3) := by decide +kernel
theorem dX7_stop_10 : decode cX7_stop 10 = .ok (.bipush (-4), 2) := by decide +kernel
theorem dX7_stop_12 : decode cX7_stop 12 = .ok (.ireturn, 1) := by decide +kernel
theorem dX7_stop_13 : decode cX7_stop 13 = .ok (.aload_n 0, 1) := by decide +kernel
theorem dX7_stop_14 : decode cX7_stop 14 = .ok (.getfield 53, 3) := by decide +kernel
theorem dX7_stop_17 : decode cX7_stop 17 = .ok (.getfield 127, 3) := by decide +kernel
theorem dX7_stop_20 : decode cX7_stop 20 = .ok (.iconst 0, 1) := by decide +kernel
theorem dX7_stop_21 : decode cX7_stop 21 = .ok (.aload_n 0, 1) := by decide +kernel
theorem dX7_stop_22 : decode cX7_stop 22 = .ok (.getfield 28, 3) := by decide +kernel
theorem dX7_stop_25 : decode cX7_stop 25 = .ok (.getfield 166, 3) := by decide +kernel
theorem dX7_stop_28 : decode cX7_stop 28 = .ok (.iconst 0, 1) := by decide +kernel
theorem dX7_stop_29 : decode cX7_stop 29 = .ok (.bipush 6, 2) := by decide +kernel
theorem dX7_stop_31 : decode cX7_stop 31 = .ok (.invokestatic 167, 3) := by decide +kernel
theorem dX7_stop_34 : decode cX7_stop 34 = .ok (.aload_n 0, 1) := by decide +kernel
theorem dX7_stop_35 : decode cX7_stop 35 = .ok (.getfield 28, 3) := by decide +kernel
theorem dX7_stop_38 : decode cX7_stop 38 = .ok (.aload_n 0, 1) := by decide +kernel
theorem dX7_stop_39 : decode cX7_stop 39 = .ok (.getfield 10, 3) := by decide +kernel
theorem dX7_stop_42 : decode cX7_stop 42 = .ok (.invokevirtual 173, 3) := by decide +kernel
theorem dX7_stop_45 : decode cX7_stop 45 = .ok (.aload_n 0, 1) := by decide +kernel
theorem dX7_stop_46 : decode cX7_stop 46 = .ok (.getfield 10, 3) := by decide +kernel
theorem dX7_stop_49 : decode cX7_stop 49 = .ok (.getfield 177, 3) := by decide +kernel
theorem dX7_stop_52 : decode cX7_stop 52 = .ok (.invokevirtual 180, 3) := by decide +kernel
theorem dX7_stop_55 : decode cX7_stop 55 = .ok (.istore_n 1, 1) := by decide +kernel
theorem dX7_stop_56 : decode cX7_stop 56 = .ok (.aload_n 0, 1) := by decide +kernel
theorem dX7_stop_57 : decode cX7_stop 57 = .ok (.getfield 28, 3) := by decide +kernel
theorem dX7_stop_60 : decode cX7_stop 60 = .ok (.aload_n 0, 1) := by decide +kernel
theorem dX7_stop_61 : decode cX7_stop 61 = .ok (.getfield 10, 3) := by decide +kernel
theorem dX7_stop_64 : decode cX7_stop 64 = .ok (.invokevirtual 173, 3) := by decide +kernel
theorem dX7_stop_67 : decode cX7_stop 67 = .ok (.invokevirtual 183, 3) := by decide +kernel
theorem dX7_stop_70 : decode cX7_stop 70 = .ok (.aload_n 0, 1) := by decide +kernel
theorem dX7_stop_71 : decode cX7_stop 71 = .ok (.getfield 53, 3) := by decide +kernel
theorem dX7_stop_74 : decode cX7_stop 74 = .ok (.aload_n 0, 1) := by decide +kernel
theorem dX7_stop_75 : decode cX7_stop 75 = .ok (.getfield 10, 3) := by decide +kernel
theorem dX7_stop_78 : decode cX7_stop 78 = .ok (.aload_n 0, 1) := by decide +kernel
theorem dX7_stop_79 : decode cX7_stop 79 = .ok (.getfield 28, 3) := by decide +kernel
theorem dX7_stop_82 : decode cX7_stop 82 = .ok (.iload_n 1, 1) := by decide +kernel
theorem dX7_stop_83 : decode cX7_stop 83 = .ok (.invokevirtual 186, 3) := by decide +kernel
theorem dX7_stop_86 : decode cX7_stop 86 = .ok (.iload_n 1, 1) := by decide +kernel
theorem dX7_stop_87 : decode cX7_stop 87 = .ok (.ireturn, 1) := by decide +kernel
theorem dX7_play_0 : decode cX7_play 0 = .ok (.aload_n 0, 1) := by decide +kernel
theorem dX7_play_1 : decode cX7_play 1 = .ok (.getfield 53, 3) := by decide +kernel
theorem dX7_play_4 : decode cX7_play 4 = .ok (.getfield 156, 3) := by decide +kernel
theorem dX7_play_7 : decode cX7_play 7 = .ok (.ifCond .eq 6, 3) := by decide +kernel
theorem dX7_play_10 : decode cX7_play 10 = .ok (.bipush (-4), 2) := by decide +kernel
theorem dX7_play_12 : decode cX7_play 12 = .ok (.ireturn, 1) := by decide +kernel
theorem dX7_play_13 : decode cX7_play 13 = .ok (.aload_n 0, 1) := by decide +kernel
theorem dX7_play_14 : decode cX7_play 14 = .ok (.getfield 53, 3) := by decide +kernel
theorem dX7_play_17 : decode cX7_play 17 = .ok (.invokevirtual 190, 3) := by decide +kernel
theorem dX7_play_20 : decode cX7_play 20 = .ok (.aload_n 0, 1) := by decide +kernel
theorem dX7_play_21 : decode cX7_play 21 = .ok (.getfield 53, 3) := by decide +kernel
theorem dX7_play_24 : decode cX7_play 24 = .ok (.getfield 159, 3) := by decide +kernel
theorem dX7_play_27 : decode cX7_play 27 = .ok (.ireturn, 1) := by decide +kernel
theorem dX7_keep_0 : decode cX7_keep 0 = .ok (.iload_n 1, 1) := by decide +kernel
theorem dX7_keep_1 : decode cX7_keep 1 = .ok (.invokestatic 193, 3) := by decide +kernel
theorem dX7_keep_4 : decode cX7_keep 4 = .ok (.ifCond .ne 6, 3) := by decide +kernel
theorem dX7_keep_7 : decode cX7_keep 7 = .ok (.bipush (-2), 2) := by decide +kernel
theorem dX7_keep_9 : decode cX7_keep 9 = .ok (.ireturn, 1) := by decide +kernel
theorem dX7_keep_10 : decode cX7_keep 10 = .ok (.iload_n 1, 1) := by decide +kernel
theorem dX7_keep_11 : decode cX7_keep 11 = .ok (.ifCond .ne 10, 3) := by decide +kernel
theorem dX7_keep_14 : decode cX7_keep 14 = .ok (.aload_n 0, 1) := by decide +kernel
theorem dX7_keep_15 : decode cX7_keep 15 = .ok (.getfield 57, 3) := by decide +kernel
theorem dX7_keep_18 : decode cX7_keep 18 = .ok (.goto 7, 3) := by decide +kernel
theorem dX7_keep_21 : decode cX7_keep 21 = .ok (.aload_n 0, 1) := by decide +kernel
theorem dX7_keep_22 : decode cX7_keep 22 = .ok (.getfield 60, 3) := by decide +kernel
theorem dX7_keep_25 : decode cX7_keep 25 = .ok (.astore_n 2, 1) := by decide +kernel
theorem dX7_keep_26 : decode cX7_keep 26 = .ok (.aload_n 2, 1) := by decide +kernel
theorem dX7_keep_27 : decode cX7_keep 27 = .ok (.aload_n 0, 1) := by decide +kernel
theorem dX7_keep_28 : decode cX7_keep 28 = .ok (.getfield 53, 3) := by decide +kernel
theorem dX7_keep_31 : decode cX7_keep 31 = .ok (.invokevirtual 196, 3) := by decide +kernel
theorem dX7_keep_34 : decode cX7_keep 34 = .ok (.aload_n 2, 1) := by decide +kernel
theorem dX7_keep_35 : decode cX7_keep 35 = .ok (.iconst 1, 1) := by decide +kernel
theorem dX7_keep_36 : decode cX7_keep 36 = .ok (.putfield 93, 3) := by decide +kernel
theorem dX7_keep_39 : decode cX7_keep 39 = .ok (.aload_n 0, 1) := by decide +kernel
theorem dX7_keep_40 : decode cX7_keep 40 = .ok (.getfield 53, 3) := by decide +kernel
theorem dX7_keep_43 : decode cX7_keep 43 = .ok (.getfield 159, 3) := by decide +kernel
theorem dX7_keep_46 : decode cX7_keep 46 = .ok (.ireturn, 1) := by decide +kernel
theorem dX7_back_0 : decode cX7_back 0 = .ok (.iload_n 1, 1) := by decide +kernel
theorem dX7_back_1 : decode cX7_back 1 = .ok (.invokestatic 193, 3) := by decide +kernel
theorem dX7_back_4 : decode cX7_back 4 = .ok (.ifCond .ne 6, 3) := by decide +kernel
theorem dX7_back_7 : decode cX7_back 7 = .ok (.bipush (-2), 2) := by decide +kernel
theorem dX7_back_9 : decode cX7_back 9 = .ok (.ireturn, 1) := by decide +kernel
theorem dX7_back_10 : decode cX7_back 10 = .ok (.iload_n 1, 1) := by decide +kernel
theorem dX7_back_11 : decode cX7_back 11 = .ok (.ifCond .ne 10, 3) := by decide +kernel
theorem dX7_back_14 : decode cX7_back 14 = .ok (.aload_n 0, 1) := by decide +kernel
theorem dX7_back_15 : decode cX7_back 15 = .ok (.getfield 57, 3) := by decide +kernel
theorem dX7_back_18 : decode cX7_back 18 = .ok (.goto 7, 3) := by decide +kernel
theorem dX7_back_21 : decode cX7_back 21 = .ok (.aload_n 0, 1) := by decide +kernel
theorem dX7_back_22 : decode cX7_back 22 = .ok (.getfield 60, 3) := by decide +kernel
theorem dX7_back_25 : decode cX7_back 25 = .ok (.astore_n 2, 1) := by decide +kernel
theorem dX7_back_26 : decode cX7_back 26 = .ok (.aload_n 2, 1) := by decide +kernel
theorem dX7_back_27 : decode cX7_back 27 = .ok (.getfield 93, 3) := by decide +kernel
theorem dX7_back_30 : decode cX7_back 30 = .ok (.ifCond .ne 6, 3) := by decide +kernel
theorem dX7_back_33 : decode cX7_back 33 = .ok (.bipush (-4), 2) := by decide +kernel
theorem dX7_back_35 : decode cX7_back 35 = .ok (.ireturn, 1) := by decide +kernel
theorem dX7_back_36 : decode cX7_back 36 = .ok (.aload_n 0, 1) := by decide +kernel
theorem dX7_back_37 : decode cX7_back 37 = .ok (.getfield 53, 3) := by decide +kernel
theorem dX7_back_40 : decode cX7_back 40 = .ok (.aload_n 2, 1) := by decide +kernel
theorem dX7_back_41 : decode cX7_back 41 = .ok (.invokevirtual 196, 3) := by decide +kernel
theorem dX7_back_44 : decode cX7_back 44 = .ok (.aload_n 0, 1) := by decide +kernel
theorem dX7_back_45 : decode cX7_back 45 = .ok (.getfield 53, 3) := by decide +kernel
theorem dX7_back_48 : decode cX7_back 48 = .ok (.getfield 159, 3) := by decide +kernel
theorem dX7_back_51 : decode cX7_back 51 = .ok (.ireturn, 1) := by decide +kernel
theorem dX7_standing_0 : decode cX7_standing 0 = .ok (.iload_n 1, 1) := by decide +kernel
theorem dX7_standing_1 : decode cX7_standing 1 = .ok (.invokestatic 199, 3) := by decide +kernel
theorem dX7_standing_4 : decode cX7_standing 4 = .ok (.ifCond .ne 6, 3) := by decide +kernel
theorem dX7_standing_7 : decode cX7_standing 7 = .ok (.bipush (-3), 2) := by decide +kernel
theorem dX7_standing_9 : decode cX7_standing 9 = .ok (.ireturn, 1) := by decide +kernel
theorem dX7_standing_10 : decode cX7_standing 10 = .ok (.aload_n 0, 1) := by decide +kernel
theorem dX7_standing_11 : decode cX7_standing 11 = .ok (.getfield 37, 3) := by decide +kernel
theorem dX7_standing_14 : decode cX7_standing 14 = .ok (.invokevirtual 202, 3) := by decide +kernel
theorem dX7_standing_17 : decode cX7_standing 17 = .ok (.aload_n 0, 1) := by decide +kernel
theorem dX7_standing_18 : decode cX7_standing 18 = .ok (.getfield 37, 3) := by decide +kernel
theorem dX7_standing_21 : decode cX7_standing 21 = .ok (.iload_n 1, 1) := by decide +kernel
theorem dX7_standing_22 : decode cX7_standing 22 = .ok (.invokevirtual 205, 3) := by decide +kernel
theorem dX7_standing_25 : decode cX7_standing 25 = .ok (.ireturn, 1) := by decide +kernel
theorem dX7_odds_0 : decode cX7_odds 0 = .ok (.aload_n 0, 1) := by decide +kernel
theorem dX7_odds_1 : decode cX7_odds 1 = .ok (.getfield 10, 3) := by decide +kernel
theorem dX7_odds_4 : decode cX7_odds 4 = .ok (.iload_n 1, 1) := by decide +kernel
theorem dX7_odds_5 : decode cX7_odds 5 = .ok (.invokevirtual 121, 3) := by decide +kernel
theorem dX7_odds_8 : decode cX7_odds 8 = .ok (.ifCond .ne 6, 3) := by decide +kernel
theorem dX7_odds_11 : decode cX7_odds 11 = .ok (.bipush (-2), 2) := by decide +kernel
theorem dX7_odds_13 : decode cX7_odds 13 = .ok (.ireturn, 1) := by decide +kernel
theorem dX7_odds_14 : decode cX7_odds 14 = .ok (.iload_n 2, 1) := by decide +kernel
theorem dX7_odds_15 : decode cX7_odds 15 = .ok (.iload_n 3, 1) := by decide +kernel
theorem dX7_odds_16 : decode cX7_odds 16 = .ok (.invokestatic 208, 3) := by decide +kernel
theorem dX7_odds_19 : decode cX7_odds 19 = .ok (.ifCond .eq 11, 3) := by decide +kernel
theorem dX7_odds_22 : decode cX7_odds 22 = .ok (.iload 4, 2) := by decide +kernel
theorem dX7_odds_24 : decode cX7_odds 24 = .ok (.invokestatic 193, 3) := by decide +kernel
theorem dX7_odds_27 : decode cX7_odds 27 = .ok (.ifCond .ne 6, 3) := by decide +kernel
theorem dX7_odds_30 : decode cX7_odds 30 = .ok (.bipush (-3), 2) := by decide +kernel
theorem dX7_odds_32 : decode cX7_odds 32 = .ok (.ireturn, 1) := by decide +kernel
theorem dX7_odds_33 : decode cX7_odds 33 = .ok (.aload_n 0, 1) := by decide +kernel
theorem dX7_odds_34 : decode cX7_odds 34 = .ok (.getfield 37, 3) := by decide +kernel
theorem dX7_odds_37 : decode cX7_odds 37 = .ok (.invokevirtual 202, 3) := by decide +kernel
theorem dX7_odds_40 : decode cX7_odds 40 = .ok (.aload_n 0, 1) := by decide +kernel
theorem dX7_odds_41 : decode cX7_odds 41 = .ok (.getfield 37, 3) := by decide +kernel
theorem dX7_odds_44 : decode cX7_odds 44 = .ok (.iload_n 2, 1) := by decide +kernel
theorem dX7_odds_45 : decode cX7_odds 45 = .ok (.iload_n 3, 1) := by decide +kernel
theorem dX7_odds_46 : decode cX7_odds 46 = .ok (.invokevirtual 211, 3) := by decide +kernel
theorem dX7_odds_49 : decode cX7_odds 49 = .ok (.aload_n 0, 1) := by decide +kernel
theorem dX7_odds_50 : decode cX7_odds 50 = .ok (.getfield 37, 3) := by decide +kernel
theorem dX7_odds_53 : decode cX7_odds 53 = .ok (.getfield 215, 3) := by decide +kernel
theorem dX7_odds_56 : decode cX7_odds 56 = .ok (.iload_n 1, 1) := by decide +kernel
theorem dX7_odds_57 : decode cX7_odds 57 = .ok (.iaload, 1) := by decide +kernel
theorem dX7_odds_58 : decode cX7_odds 58 = .ok (.istore 5, 2) := by decide +kernel
theorem dX7_odds_60 : decode cX7_odds 60 = .ok (.iload_n 3, 1) := by decide +kernel
theorem dX7_odds_61 : decode cX7_odds 61 = .ok (.iload_n 2, 1) := by decide +kernel
theorem dX7_odds_62 : decode cX7_odds 62 = .ok (.isub, 1) := by decide +kernel
theorem dX7_odds_63 : decode cX7_odds 63 = .ok (.iconst 1, 1) := by decide +kernel
theorem dX7_odds_64 : decode cX7_odds 64 = .ok (.iadd, 1) := by decide +kernel
theorem dX7_odds_65 : decode cX7_odds 65 = .ok (.istore 6, 2) := by decide +kernel
theorem dX7_odds_67 : decode cX7_odds 67 = .ok (.iload 6, 2) := by decide +kernel
theorem dX7_odds_69 : decode cX7_odds 69 = .ok (.iload 5, 2) := by decide +kernel
theorem dX7_odds_71 : decode cX7_odds 71 = .ok (.invokestatic 218, 3) := by decide +kernel
theorem dX7_odds_74 : decode cX7_odds 74 = .ok (.istore 7, 2) := by decide +kernel
theorem dX7_odds_76 : decode cX7_odds 76 = .ok (.iload 7, 2) := by decide +kernel
theorem dX7_odds_78 : decode cX7_odds 78 = .ok (.iconst 1, 1) := by decide +kernel
theorem dX7_odds_79 : decode cX7_odds 79 = .ok (.if_icmp .ge 6, 3) := by decide +kernel
theorem dX7_odds_82 : decode cX7_odds 82 = .ok (.bipush (-3), 2) := by decide +kernel
theorem dX7_odds_84 : decode cX7_odds 84 = .ok (.ireturn, 1) := by decide +kernel
theorem dX7_odds_85 : decode cX7_odds 85 = .ok (.iload 4, 2) := by decide +kernel
theorem dX7_odds_87 : decode cX7_odds 87 = .ok (.ifCond .ne 8, 3) := by decide +kernel
theorem dX7_odds_90 : decode cX7_odds 90 = .ok (.iload 5, 2) := by decide +kernel
theorem dX7_odds_92 : decode cX7_odds 92 = .ok (.goto 5, 3) := by decide +kernel
theorem dX7_odds_95 : decode cX7_odds 95 = .ok (.iload 6, 2) := by decide +kernel
theorem dX7_odds_97 : decode cX7_odds 97 = .ok (.iload 7, 2) := by decide +kernel
theorem dX7_odds_99 : decode cX7_odds 99 = .ok (.idiv, 1) := by decide +kernel
theorem dX7_odds_100 : decode cX7_odds 100 = .ok (.ireturn, 1) := by decide +kernel
theorem dX7_surest_0 : decode cX7_surest 0 = .ok (.aload_n 0, 1) := by decide +kernel
theorem dX7_surest_1 : decode cX7_surest 1 = .ok (.getfield 10, 3) := by decide +kernel
theorem dX7_surest_4 : decode cX7_surest 4 = .ok (.iload_n 1, 1) := by decide +kernel
theorem dX7_surest_5 : decode cX7_surest 5 = .ok (.invokevirtual 121, 3) := by decide +kernel
theorem dX7_surest_8 : decode cX7_surest 8 = .ok (.ifCond .ne 6, 3) := by decide +kernel
theorem dX7_surest_11 : decode cX7_surest 11 = .ok (.bipush (-2), 2) := by decide +kernel
theorem dX7_surest_13 : decode cX7_surest 13 = .ok (.ireturn, 1) := by decide +kernel
theorem dX7_surest_14 : decode cX7_surest 14 = .ok (.iload_n 2, 1) := by decide +kernel
theorem dX7_surest_15 : decode cX7_surest 15 = .ok (.iload_n 3, 1) := by decide +kernel
theorem dX7_surest_16 : decode cX7_surest 16 = .ok (.invokestatic 208, 3) := by decide +kernel
theorem dX7_surest_19 : decode cX7_surest 19 = .ok (.ifCond .eq 14, 3) := by decide +kernel
theorem dX7_surest_22 : decode cX7_surest 22 = .ok (.iload 4, 2) := by decide +kernel
theorem dX7_surest_24 : decode cX7_surest 24 = .ok (.ifCond .lt 9, 3) := by decide +kernel
theorem dX7_surest_27 : decode cX7_surest 27 = .ok (.iload 4, 2) := by decide +kernel
theorem dX7_surest_29 : decode cX7_surest 29 = .ok (.iconst 2, 1) := by decide +kernel
theorem dX7_surest_30 : decode cX7_surest 30 = .ok (.if_icmp .le 6, 3) := by decide +kernel
theorem dX7_surest_33 : decode cX7_surest 33 = .ok (.bipush (-3), 2) := by decide +kernel
theorem dX7_surest_35 : decode cX7_surest 35 = .ok (.ireturn, 1) := by decide +kernel
theorem dX7_surest_36 : decode cX7_surest 36 = .ok (.aload_n 0, 1) := by decide +kernel
theorem dX7_surest_37 : decode cX7_surest 37 = .ok (.getfield 46, 3) := by decide +kernel
theorem dX7_surest_40 : decode cX7_surest 40 = .ok (.iload_n 1, 1) := by decide +kernel
theorem dX7_surest_41 : decode cX7_surest 41 = .ok (.iload_n 2, 1) := by decide +kernel
theorem dX7_surest_42 : decode cX7_surest 42 = .ok (.iload_n 3, 1) := by decide +kernel
theorem dX7_surest_43 : decode cX7_surest 43 = .ok (.invokevirtual 221, 3) := by decide +kernel
theorem dX7_surest_46 : decode cX7_surest 46 = .ok (.iload 4, 2) := by decide +kernel
theorem dX7_surest_48 : decode cX7_surest 48 = .ok (.ifCond .ne 11, 3) := by decide +kernel
theorem dX7_surest_51 : decode cX7_surest 51 = .ok (.aload_n 0, 1) := by decide +kernel
theorem dX7_surest_52 : decode cX7_surest 52 = .ok (.getfield 46, 3) := by decide +kernel
theorem dX7_surest_55 : decode cX7_surest 55 = .ok (.getfield 225, 3) := by decide +kernel
theorem dX7_surest_58 : decode cX7_surest 58 = .ok (.ireturn, 1) := by decide +kernel
theorem dX7_surest_59 : decode cX7_surest 59 = .ok (.iload 4, 2) := by decide +kernel
theorem dX7_surest_61 : decode cX7_surest 61 = .ok (.iconst 1, 1) := by decide +kernel
theorem dX7_surest_62 : decode cX7_surest 62 = .ok (.if_icmp .ne 13, 3) := by decide +kernel
theorem dX7_surest_65 : decode cX7_surest 65 = .ok (.aload_n 0, 1) := by decide +kernel
theorem dX7_surest_66 : decode cX7_surest 66 = .ok (.getfield 46, 3) := by decide +kernel
theorem dX7_surest_69 : decode cX7_surest 69 = .ok (.getfield 228, 3) := by decide +kernel
theorem dX7_surest_72 : decode cX7_surest 72 = .ok (.goto 10, 3) := by decide +kernel
theorem dX7_surest_75 : decode cX7_surest 75 = .ok (.aload_n 0, 1) := by decide +kernel
theorem dX7_surest_76 : decode cX7_surest 76 = .ok (.getfield 46, 3) := by decide +kernel
theorem dX7_surest_79 : decode cX7_surest 79 = .ok (.getfield 231, 3) := by decide +kernel
theorem dX7_surest_82 : decode cX7_surest 82 = .ok (.ireturn, 1) := by decide +kernel
theorem dX7_still_0 : decode cX7_still 0 = .ok (.iload_n 1, 1) := by decide +kernel
theorem dX7_still_1 : decode cX7_still 1 = .ok (.iload_n 2, 1) := by decide +kernel
theorem dX7_still_2 : decode cX7_still 2 = .ok (.invokestatic 208, 3) := by decide +kernel
theorem dX7_still_5 : decode cX7_still 5 = .ok (.ifCond .eq 10, 3) := by decide +kernel
theorem dX7_still_8 : decode cX7_still 8 = .ok (.iload_n 3, 1) := by decide +kernel
theorem dX7_still_9 : decode cX7_still 9 = .ok (.invokestatic 193, 3) := by decide +kernel
theorem dX7_still_12 : decode cX7_still 12 = .ok (.ifCond .ne 6, 3) := by decide +kernel
theorem dX7_still_15 : decode cX7_still 15 = .ok (.bipush (-3), 2) := by decide +kernel
theorem dX7_still_17 : decode cX7_still 17 = .ok (.ireturn, 1) := by decide +kernel
theorem dX7_still_18 : decode cX7_still 18 = .ok (.aload_n 0, 1) := by decide +kernel
theorem dX7_still_19 : decode cX7_still 19 = .ok (.getfield 46, 3) := by decide +kernel
theorem dX7_still_22 : decode cX7_still 22 = .ok (.iload_n 1, 1) := by decide +kernel
theorem dX7_still_23 : decode cX7_still 23 = .ok (.iload_n 2, 1) := by decide +kernel
theorem dX7_still_24 : decode cX7_still 24 = .ok (.invokevirtual 234, 3) := by decide +kernel
theorem dX7_still_27 : decode cX7_still 27 = .ok (.iload_n 3, 1) := by decide +kernel
theorem dX7_still_28 : decode cX7_still 28 = .ok (.ifCond .ne 13, 3) := by decide +kernel
theorem dX7_still_31 : decode cX7_still 31 = .ok (.aload_n 0, 1) := by decide +kernel
theorem dX7_still_32 : decode cX7_still 32 = .ok (.getfield 46, 3) := by decide +kernel
theorem dX7_still_35 : decode cX7_still 35 = .ok (.getfield 231, 3) := by decide +kernel
theorem dX7_still_38 : decode cX7_still 38 = .ok (.goto 10, 3) := by decide +kernel
theorem dX7_still_41 : decode cX7_still 41 = .ok (.aload_n 0, 1) := by decide +kernel
theorem dX7_still_42 : decode cX7_still 42 = .ok (.getfield 46, 3) := by decide +kernel
theorem dX7_still_45 : decode cX7_still 45 = .ok (.getfield 237, 3) := by decide +kernel
theorem dX7_still_48 : decode cX7_still 48 = .ok (.ireturn, 1) := by decide +kernel
theorem dX7_plot_0 : decode cX7_plot 0 = .ok (.aload_n 0, 1) := by decide +kernel
theorem dX7_plot_1 : decode cX7_plot 1 = .ok (.getfield 10, 3) := by decide +kernel
theorem dX7_plot_4 : decode cX7_plot 4 = .ok (.iload_n 1, 1) := by decide +kernel
theorem dX7_plot_5 : decode cX7_plot 5 = .ok (.invokevirtual 121, 3) := by decide +kernel
theorem dX7_plot_8 : decode cX7_plot 8 = .ok (.ifCond .eq 22, 3) := by decide +kernel
theorem dX7_plot_11 : decode cX7_plot 11 = .ok (.aload_n 0, 1) := by decide +kernel
theorem dX7_plot_12 : decode cX7_plot 12 = .ok (.getfield 10, 3) := by decide +kernel
theorem dX7_plot_15 : decode cX7_plot 15 = .ok (.iload_n 2, 1) := by decide +kernel
theorem dX7_plot_16 : decode cX7_plot 16 = .ok (.invokevirtual 240, 3) := by decide +kernel
theorem dX7_plot_19 : decode cX7_plot 19 = .ok (.ifCond .eq 11, 3) := by decide +kernel
theorem dX7_plot_22 : decode cX7_plot 22 = .ok (.iload_n 2, 1) := by decide +kernel
theorem dX7_plot_23 : decode cX7_plot 23 = .ok (.iload_n 1, 1) := by decide +kernel
theorem dX7_plot_24 : decode cX7_plot 24 = .ok (.invokestatic 243, 3) := by decide +kernel
theorem dX7_plot_27 : decode cX7_plot 27 = .ok (.ifCond .eq 6, 3) := by decide +kernel
theorem dX7_plot_30 : decode cX7_plot 30 = .ok (.bipush (-2), 2) := by decide +kernel
theorem dX7_plot_32 : decode cX7_plot 32 = .ok (.ireturn, 1) := by decide +kernel
theorem dX7_plot_33 : decode cX7_plot 33 = .ok (.iload_n 3, 1) := by decide +kernel
theorem dX7_plot_34 : decode cX7_plot 34 = .ok (.invokestatic 199, 3) := by decide +kernel
theorem dX7_plot_37 : decode cX7_plot 37 = .ok (.ifCond .eq 11, 3) := by decide +kernel
theorem dX7_plot_40 : decode cX7_plot 40 = .ok (.iload 4, 2) := by decide +kernel
theorem dX7_plot_42 : decode cX7_plot 42 = .ok (.invokestatic 193, 3) := by decide +kernel
theorem dX7_plot_45 : decode cX7_plot 45 = .ok (.ifCond .ne 6, 3) := by decide +kernel
theorem dX7_plot_48 : decode cX7_plot 48 = .ok (.bipush (-3), 2) := by decide +kernel
theorem dX7_plot_50 : decode cX7_plot 50 = .ok (.ireturn, 1) := by decide +kernel
theorem dX7_plot_51 : decode cX7_plot 51 = .ok (.aload_n 0, 1) := by decide +kernel
theorem dX7_plot_52 : decode cX7_plot 52 = .ok (.getfield 46, 3) := by decide +kernel
theorem dX7_plot_55 : decode cX7_plot 55 = .ok (.iload_n 1, 1) := by decide +kernel
theorem dX7_plot_56 : decode cX7_plot 56 = .ok (.iload_n 2, 1) := by decide +kernel
theorem dX7_plot_57 : decode cX7_plot 57 = .ok (.iload_n 3, 1) := by decide +kernel
theorem dX7_plot_58 : decode cX7_plot 58 = .ok (.invokevirtual 246, 3) := by decide +kernel
theorem dX7_plot_61 : decode cX7_plot 61 = .ok (.iload 4, 2) := by decide +kernel
theorem dX7_plot_63 : decode cX7_plot 63 = .ok (.ifCond .ne 13, 3) := by decide +kernel
theorem dX7_plot_66 : decode cX7_plot 66 = .ok (.aload_n 0, 1) := by decide +kernel
theorem dX7_plot_67 : decode cX7_plot 67 = .ok (.getfield 46, 3) := by decide +kernel
theorem dX7_plot_70 : decode cX7_plot 70 = .ok (.getfield 231, 3) := by decide +kernel
theorem dX7_plot_73 : decode cX7_plot 73 = .ok (.goto 10, 3) := by decide +kernel
theorem dX7_plot_76 : decode cX7_plot 76 = .ok (.aload_n 0, 1) := by decide +kernel
theorem dX7_plot_77 : decode cX7_plot 77 = .ok (.getfield 46, 3) := by decide +kernel
theorem dX7_plot_80 : decode cX7_plot 80 = .ok (.getfield 237, 3) := by decide +kernel
theorem dX7_plot_83 : decode cX7_plot 83 = .ok (.ireturn, 1) := by decide +kernel
theorem dX7_price_0 : decode cX7_price 0 = .ok (.iload_n 1, 1) := by decide +kernel
theorem dX7_price_1 : decode cX7_price 1 = .ok (.invokestatic 199, 3) := by decide +kernel
theorem dX7_price_4 : decode cX7_price 4 = .ok (.ifCond .ne 6, 3) := by decide +kernel
theorem dX7_price_7 : decode cX7_price 7 = .ok (.bipush (-3), 2) := by decide +kernel
theorem dX7_price_9 : decode cX7_price 9 = .ok (.ireturn, 1) := by decide +kernel
theorem dX7_price_10 : decode cX7_price 10 = .ok (.aload_n 0, 1) := by decide +kernel
theorem dX7_price_11 : decode cX7_price 11 = .ok (.getfield 37, 3) := by decide +kernel
theorem dX7_price_14 : decode cX7_price 14 = .ok (.invokevirtual 202, 3) := by decide +kernel
theorem dX7_price_17 : decode cX7_price 17 = .ok (.aload_n 0, 1) := by decide +kernel
theorem dX7_price_18 : decode cX7_price 18 = .ok (.getfield 37, 3) := by decide +kernel
theorem dX7_price_21 : decode cX7_price 21 = .ok (.iload_n 1, 1) := by decide +kernel
theorem dX7_price_22 : decode cX7_price 22 = .ok (.invokevirtual 205, 3) := by decide +kernel
theorem dX7_price_25 : decode cX7_price 25 = .ok (.istore_n 2, 1) := by decide +kernel
theorem dX7_price_26 : decode cX7_price 26 = .ok (.aload_n 0, 1) := by decide +kernel
theorem dX7_price_27 : decode cX7_price 27 = .ok (.getfield 28, 3) := by decide +kernel
theorem dX7_price_30 : decode cX7_price 30 = .ok (.getfield 249, 3) := by decide +kernel
theorem dX7_price_33 : decode cX7_price 33 = .ok (.ifCond .eq 14, 3) := by decide +kernel
theorem dX7_price_36 : decode cX7_price 36 = .ok (.aload_n 0, 1) := by decide +kernel
theorem dX7_price_37 : decode cX7_price 37 = .ok (.getfield 10, 3) := by decide +kernel
theorem dX7_price_40 : decode cX7_price 40 = .ok (.iload_n 2, 1) := by decide +kernel
theorem dX7_price_41 : decode cX7_price 41 = .ok (.invokevirtual 252, 3) := by decide +kernel
theorem dX7_price_44 : decode cX7_price 44 = .ok (.goto 4, 3) := by decide +kernel
theorem dX7_price_47 : decode cX7_price 47 = .ok (.iconst 0, 1) := by decide +kernel
theorem dX7_price_48 : decode cX7_price 48 = .ok (.ireturn, 1) := by decide +kernel
theorem dX7_laid_0 : decode cX7_laid 0 = .ok (.iload_n 1, 1) := by decide +kernel
theorem dX7_laid_1 : decode cX7_laid 1 = .ok (.ifCond .lt 30, 3) := by decide +kernel
theorem dX7_laid_4 : decode cX7_laid 4 = .ok (.iload_n 1, 1) := by decide +kernel
theorem dX7_laid_5 : decode cX7_laid 5 = .ok (.aload_n 0, 1) := by decide +kernel
theorem dX7_laid_6 : decode cX7_laid 6 = .ok (.getfield 10, 3) := by decide +kernel
theorem dX7_laid_9 : decode cX7_laid 9 = .ok (.getfield 255, 3) := by decide +kernel
theorem dX7_laid_12 : decode cX7_laid 12 = .ok (.if_icmp .gt 19, 3) := by decide +kernel
theorem dX7_laid_15 : decode cX7_laid 15 = .ok (.iload_n 2, 1) := by decide +kernel
theorem dX7_laid_16 : decode cX7_laid 16 = .ok (.iload_n 3, 1) := by decide +kernel
theorem dX7_laid_17 : decode cX7_laid 17 = .ok (.invokestatic 208, 3) := by decide +kernel
theorem dX7_laid_20 : decode cX7_laid 20 = .ok (.ifCond .eq 11, 3) := by decide +kernel
theorem dX7_laid_23 : decode cX7_laid 23 = .ok (.iload 4, 2) := by decide +kernel
theorem dX7_laid_25 : decode cX7_laid 25 = .ok (.invokestatic 193, 3) := by decide +kernel
theorem dX7_laid_28 : decode cX7_laid 28 = .ok (.ifCond .ne 6, 3) := by decide +kernel
theorem dX7_laid_31 : decode cX7_laid 31 = .ok (.bipush (-3), 2) := by decide +kernel
theorem dX7_laid_33 : decode cX7_laid 33 = .ok (.ireturn, 1) := by decide +kernel
theorem dX7_laid_34 : decode cX7_laid 34 = .ok (.aload_n 0, 1) := by decide +kernel
theorem dX7_laid_35 : decode cX7_laid 35 = .ok (.getfield 46, 3) := by decide +kernel
theorem dX7_laid_38 : decode cX7_laid 38 = .ok (.iload_n 1, 1) := by decide +kernel
theorem dX7_laid_39 : decode cX7_laid 39 = .ok (.iload_n 2, 1) := by decide +kernel
theorem dX7_laid_40 : decode cX7_laid 40 = .ok (.iload_n 3, 1) := by decide +kernel
theorem dX7_laid_41 : decode cX7_laid 41 = .ok (.invokevirtual 258, 3) := by decide +kernel
theorem dX7_laid_44 : decode cX7_laid 44 = .ok (.iload 4, 2) := by decide +kernel
theorem dX7_laid_46 : decode cX7_laid 46 = .ok (.ifCond .ne 13, 3) := by decide +kernel
theorem dX7_laid_49 : decode cX7_laid 49 = .ok (.aload_n 0, 1) := by decide +kernel
theorem dX7_laid_50 : decode cX7_laid 50 = .ok (.getfield 46, 3) := by decide +kernel
theorem dX7_laid_53 : decode cX7_laid 53 = .ok (.getfield 231, 3) := by decide +kernel
theorem dX7_laid_56 : decode cX7_laid 56 = .ok (.goto 10, 3) := by decide +kernel
theorem dX7_laid_59 : decode cX7_laid 59 = .ok (.aload_n 0, 1) := by decide +kernel
theorem dX7_laid_60 : decode cX7_laid 60 = .ok (.getfield 46, 3) := by decide +kernel
theorem dX7_laid_63 : decode cX7_laid 63 = .ok (.getfield 237, 3) := by decide +kernel
theorem dX7_laid_66 : decode cX7_laid 66 = .ok (.ireturn, 1) := by decide +kernel
theorem dX7_left_0 : decode cX7_left 0 = .ok (.iload_n 1, 1) := by decide +kernel
theorem dX7_left_1 : decode cX7_left 1 = .ok (.invokestatic 199, 3) := by decide +kernel
theorem dX7_left_4 : decode cX7_left 4 = .ok (.ifCond .eq 10, 3) := by decide +kernel
theorem dX7_left_7 : decode cX7_left 7 = .ok (.iload_n 2, 1) := by decide +kernel
theorem dX7_left_8 : decode cX7_left 8 = .ok (.invokestatic 193, 3) := by decide +kernel
theorem dX7_left_11 : decode cX7_left 11 = .ok (.ifCond .ne 6, 3) := by decide +kernel
theorem dX7_left_14 : decode cX7_left 14 = .ok (.bipush (-3), 2) := by decide +kernel
theorem dX7_left_16 : decode cX7_left 16 = .ok (.ireturn, 1) := by decide +kernel
theorem dX7_left_17 : decode cX7_left 17 = .ok (.aload_n 0, 1) := by decide +kernel
theorem dX7_left_18 : decode cX7_left 18 = .ok (.getfield 37, 3) := by decide +kernel
theorem dX7_left_21 : decode cX7_left 21 = .ok (.iload_n 1, 1) := by decide +kernel
theorem dX7_left_22 : decode cX7_left 22 = .ok (.invokevirtual 261, 3) := by decide +kernel
theorem dX7_left_25 : decode cX7_left 25 = .ok (.istore_n 3, 1) := by decide +kernel
theorem dX7_left_26 : decode cX7_left 26 = .ok (.iload_n 2, 1) := by decide +kernel
theorem dX7_left_27 : decode cX7_left 27 = .ok (.ifCond .ne 13, 3) := by decide +kernel
theorem dX7_left_30 : decode cX7_left 30 = .ok (.aload_n 0, 1) := by decide +kernel
theorem dX7_left_31 : decode cX7_left 31 = .ok (.getfield 37, 3) := by decide +kernel
theorem dX7_left_34 : decode cX7_left 34 = .ok (.getfield 264, 3) := by decide +kernel
theorem dX7_left_37 : decode cX7_left 37 = .ok (.goto 4, 3) := by decide +kernel
theorem dX7_left_40 : decode cX7_left 40 = .ok (.iload_n 3, 1) := by decide +kernel
theorem dX7_left_41 : decode cX7_left 41 = .ok (.ireturn, 1) := by decide +kernel
theorem dX7_seen_0 : decode cX7_seen 0 = .ok (.aload_n 0, 1) := by decide +kernel
theorem dX7_seen_1 : decode cX7_seen 1 = .ok (.getfield 10, 3) := by decide +kernel
theorem dX7_seen_4 : decode cX7_seen 4 = .ok (.iload_n 1, 1) := by decide +kernel
theorem dX7_seen_5 : decode cX7_seen 5 = .ok (.invokevirtual 121, 3) := by decide +kernel
theorem dX7_seen_8 : decode cX7_seen 8 = .ok (.ifCond .ne 6, 3) := by decide +kernel
theorem dX7_seen_11 : decode cX7_seen 11 = .ok (.bipush (-2), 2) := by decide +kernel
theorem dX7_seen_13 : decode cX7_seen 13 = .ok (.ireturn, 1) := by decide +kernel
theorem dX7_seen_14 : decode cX7_seen 14 = .ok (.iload_n 2, 1) := by decide +kernel
theorem dX7_seen_15 : decode cX7_seen 15 = .ok (.invokestatic 193, 3) := by decide +kernel
theorem dX7_seen_18 : decode cX7_seen 18 = .ok (.ifCond .ne 6, 3) := by decide +kernel
theorem dX7_seen_21 : decode cX7_seen 21 = .ok (.bipush (-3), 2) := by decide +kernel
theorem dX7_seen_23 : decode cX7_seen 23 = .ok (.ireturn, 1) := by decide +kernel
theorem dX7_seen_24 : decode cX7_seen 24 = .ok (.aload_n 0, 1) := by decide +kernel
theorem dX7_seen_25 : decode cX7_seen 25 = .ok (.getfield 66, 3) := by decide +kernel
theorem dX7_seen_28 : decode cX7_seen 28 = .ok (.getfield 97, 3) := by decide +kernel
theorem dX7_seen_31 : decode cX7_seen 31 = .ok (.bipush 6, 2) := by decide +kernel
theorem dX7_seen_33 : decode cX7_seen 33 = .ok (.if_icmp .lt 6, 3) := by decide +kernel
theorem dX7_seen_36 : decode cX7_seen 36 = .ok (.bipush (-5), 2) := by decide +kernel
theorem dX7_seen_38 : decode cX7_seen 38 = .ok (.ireturn, 1) := by decide +kernel
theorem dX7_seen_39 : decode cX7_seen 39 = .ok (.aload_n 0, 1) := by decide +kernel
theorem dX7_seen_40 : decode cX7_seen 40 = .ok (.getfield 66, 3) := by decide +kernel
theorem dX7_seen_43 : decode cX7_seen 43 = .ok (.iload_n 1, 1) := by decide +kernel
theorem dX7_seen_44 : decode cX7_seen 44 = .ok (.iload_n 2, 1) := by decide +kernel
theorem dX7_seen_45 : decode cX7_seen 45 = .ok (.invokevirtual 267, 3) := by decide +kernel
theorem dX7_seen_48 : decode cX7_seen 48 = .ok (.aload_n 0, 1) := by decide +kernel
theorem dX7_seen_49 : decode cX7_seen 49 = .ok (.getfield 66, 3) := by decide +kernel
theorem dX7_seen_52 : decode cX7_seen 52 = .ok (.getfield 97, 3) := by decide +kernel
theorem dX7_seen_55 : decode cX7_seen 55 = .ok (.ireturn, 1) := by decide +kernel
theorem dX7_forget_0 : decode cX7_forget 0 = .ok (.aload_n 0, 1) := by decide +kernel
theorem dX7_forget_1 : decode cX7_forget 1 = .ok (.getfield 66, 3) := by decide +kernel
theorem dX7_forget_4 : decode cX7_forget 4 = .ok (.getfield 97, 3) := by decide +kernel
theorem dX7_forget_7 : decode cX7_forget 7 = .ok (.istore_n 1, 1) := by decide +kernel
theorem dX7_forget_8 : decode cX7_forget 8 = .ok (.aload_n 0, 1) := by decide +kernel
theorem dX7_forget_9 : decode cX7_forget 9 = .ok (.getfield 66, 3) := by decide +kernel
theorem dX7_forget_12 : decode cX7_forget 12 = .ok (.iconst 0, 1) := by decide +kernel
theorem dX7_forget_13 : decode cX7_forget 13 = .ok (.putfield 97, 3) := by decide +kernel
theorem dX7_forget_16 : decode cX7_forget 16 = .ok (.iload_n 1, 1) := by decide +kernel
theorem dX7_forget_17 : decode cX7_forget 17 = .ok (.ireturn, 1) := by decide +kernel
theorem dX7_fits_0 : decode cX7_fits 0 = .ok (.iload_n 1, 1) := by decide +kernel
theorem dX7_fits_1 : decode cX7_fits 1 = .ok (.invokestatic 193, 3) := by decide +kernel
theorem dX7_fits_4 : decode cX7_fits 4 = .ok (.ifCond .ne 6, 3) := by decide +kernel
theorem dX7_fits_7 : decode cX7_fits 7 = .ok (.bipush (-3), 2) := by decide +kernel
theorem dX7_fits_9 : decode cX7_fits 9 = .ok (.ireturn, 1) := by decide +kernel
theorem dX7_fits_10 : decode cX7_fits 10 = .ok (.aload_n 0, 1) := by decide +kernel
theorem dX7_fits_11 : decode cX7_fits 11 = .ok (.getfield 46, 3) := by decide +kernel
theorem dX7_fits_14 : decode cX7_fits 14 = .ok (.aload_n 0, 1) := by decide +kernel
theorem dX7_fits_15 : decode cX7_fits 15 = .ok (.getfield 66, 3) := by decide +kernel
theorem dX7_fits_18 : decode cX7_fits 18 = .ok (.invokevirtual 270, 3) := by decide +kernel
theorem dX7_fits_21 : decode cX7_fits 21 = .ok (.iload_n 1, 1) := by decide +kernel
theorem dX7_fits_22 : decode cX7_fits 22 = .ok (.ifCond .ne 13, 3) := by decide +kernel
theorem dX7_fits_25 : decode cX7_fits 25 = .ok (.aload_n 0, 1) := by decide +kernel
theorem dX7_fits_26 : decode cX7_fits 26 = .ok (.getfield 46, 3) := by decide +kernel
theorem dX7_fits_29 : decode cX7_fits 29 = .ok (.getfield 231, 3) := by decide +kernel
theorem dX7_fits_32 : decode cX7_fits 32 = .ok (.goto 10, 3) := by decide +kernel
theorem dX7_fits_35 : decode cX7_fits 35 = .ok (.aload_n 0, 1) := by decide +kernel
theorem dX7_fits_36 : decode cX7_fits 36 = .ok (.getfield 46, 3) := by decide +kernel
