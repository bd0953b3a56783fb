theorem dX7_fits_39 : decode cX7_fits 39 = .ok (.getfield 237, 3) := by decide +kernel
theorem dX7_fits_42 : decode cX7_fits 42 = .ok (.ireturn, 1) := by decide +kernel
theorem dX7_count_0 : decode cX7_count 0 = .ok (.iload_n 1, 1) := by decide +kernel
theorem dX7_count_1 : decode cX7_count 1 = .ok (.tableswitch 119 0 7 #[47, 55, 63, 71, 79, 95, 103, 111], 47) := by decide +kernel
theorem dX7_count_48 : decode cX7_count 48 = .ok (.aload_n 0, 1) := by decide +kernel
theorem dX7_count_49 : decode cX7_count 49 = .ok (.getfield 10, 3) := by decide +kernel
theorem dX7_count_52 : decode cX7_count 52 = .ok (.getfield 255, 3) := by decide +kernel
theorem dX7_count_55 : decode cX7_count 55 = .ok (.ireturn, 1) := by decide +kernel
theorem dX7_count_56 : decode cX7_count 56 = .ok (.aload_n 0, 1) := by decide +kernel
theorem dX7_count_57 : decode cX7_count 57 = .ok (.getfield 10, 3) := by decide +kernel
theorem dX7_count_60 : decode cX7_count 60 = .ok (.getfield 114, 3) := by decide +kernel
theorem dX7_count_63 : decode cX7_count 63 = .ok (.ireturn, 1) := by decide +kernel
theorem dX7_count_64 : decode cX7_count 64 = .ok (.aload_n 0, 1) := by decide +kernel
theorem dX7_count_65 : decode cX7_count 65 = .ok (.getfield 10, 3) := by decide +kernel
theorem dX7_count_68 : decode cX7_count 68 = .ok (.getfield 177, 3) := by decide +kernel
theorem dX7_count_71 : decode cX7_count 71 = .ok (.ireturn, 1) := by decide +kernel
theorem dX7_count_72 : decode cX7_count 72 = .ok (.aload_n 0, 1) := by decide +kernel
theorem dX7_count_73 : decode cX7_count 73 = .ok (.getfield 53, 3) := by decide +kernel
theorem dX7_count_76 : decode cX7_count 76 = .ok (.getfield 159, 3) := by decide +kernel
theorem dX7_count_79 : decode cX7_count 79 = .ok (.ireturn, 1) := by decide +kernel
theorem dX7_count_80 : decode cX7_count 80 = .ok (.aload_n 0, 1) := by decide +kernel
theorem dX7_count_81 : decode cX7_count 81 = .ok (.getfield 53, 3) := by decide +kernel
theorem dX7_count_84 : decode cX7_count 84 = .ok (.getfield 156, 3) := by decide +kernel
theorem dX7_count_87 : decode cX7_count 87 = .ok (.ifCond .eq 7, 3) := by decide +kernel
theorem dX7_count_90 : decode cX7_count 90 = .ok (.iconst 1, 1) := by decide +kernel
theorem dX7_count_91 : decode cX7_count 91 = .ok (.goto 4, 3) := by decide +kernel
theorem dX7_count_94 : decode cX7_count 94 = .ok (.iconst 0, 1) := by decide +kernel
theorem dX7_count_95 : decode cX7_count 95 = .ok (.ireturn, 1) := by decide +kernel
theorem dX7_count_96 : decode cX7_count 96 = .ok (.aload_n 0, 1) := by decide +kernel
theorem dX7_count_97 : decode cX7_count 97 = .ok (.getfield 53, 3) := by decide +kernel
theorem dX7_count_100 : decode cX7_count 100 = .ok (.getfield 274, 3) := by decide +kernel
theorem dX7_count_103 : decode cX7_count 103 = .ok (.ireturn, 1) := by decide +kernel
theorem dX7_count_104 : decode cX7_count 104 = .ok (.aload_n 0, 1) := by decide +kernel
theorem dX7_count_105 : decode cX7_count 105 = .ok (.getfield 66, 3) := by decide +kernel
theorem dX7_count_108 : decode cX7_count 108 = .ok (.getfield 97, 3) := by decide +kernel
theorem dX7_count_111 : decode cX7_count 111 = .ok (.ireturn, 1) := by decide +kernel
theorem dX7_count_112 : decode cX7_count 112 = .ok (.aload_n 0, 1) := by decide +kernel
theorem dX7_count_113 : decode cX7_count 113 = .ok (.getfield 19, 3) := by decide +kernel
theorem dX7_count_116 : decode cX7_count 116 = .ok (.getfield 70, 3) := by decide +kernel
theorem dX7_count_119 : decode cX7_count 119 = .ok (.ireturn, 1) := by decide +kernel
theorem dX7_count_120 : decode cX7_count 120 = .ok (.bipush (-3), 2) := by decide +kernel
theorem dX7_count_122 : decode cX7_count 122 = .ok (.ireturn, 1) := by decide +kernel
theorem dX7_isMinute_0 : decode cX7_isMinute 0 = .ok (.iload_n 0, 1) := by decide +kernel
theorem dX7_isMinute_1 : decode cX7_isMinute 1 = .ok (.ifCond .lt 13, 3) := by decide +kernel
theorem dX7_isMinute_4 : decode cX7_isMinute 4 = .ok (.iload_n 0, 1) := by decide +kernel
theorem dX7_isMinute_5 : decode cX7_isMinute 5 = .ok (.bipush 99, 2) := by decide +kernel
theorem dX7_isMinute_7 : decode cX7_isMinute 7 = .ok (.if_icmp .gt 7, 3) := by decide +kernel
theorem dX7_isMinute_10 : decode cX7_isMinute 10 = .ok (.iconst 1, 1) := by decide +kernel
theorem dX7_isMinute_11 : decode cX7_isMinute 11 = .ok (.goto 4, 3) := by decide +kernel
theorem dX7_isMinute_14 : decode cX7_isMinute 14 = .ok (.iconst 0, 1) := by decide +kernel
theorem dX7_isMinute_15 : decode cX7_isMinute 15 = .ok (.ireturn, 1) := by decide +kernel
theorem dX7_areMinutes_0 : decode cX7_areMinutes 0 = .ok (.iload_n 0, 1) := by decide +kernel
theorem dX7_areMinutes_1 : decode cX7_areMinutes 1 = .ok (.invokestatic 199, 3) := by decide +kernel
theorem dX7_areMinutes_4 : decode cX7_areMinutes 4 = .ok (.ifCond .eq 19, 3) := by decide +kernel
theorem dX7_areMinutes_7 : decode cX7_areMinutes 7 = .ok (.iload_n 1, 1) := by decide +kernel
theorem dX7_areMinutes_8 : decode cX7_areMinutes 8 = .ok (.invokestatic 199, 3) := by decide +kernel
theorem dX7_areMinutes_11 : decode cX7_areMinutes 11 = .ok (.ifCond .eq 12, 3) := by decide +kernel
theorem dX7_areMinutes_14 : decode cX7_areMinutes 14 = .ok (.iload_n 0, 1) := by decide +kernel
theorem dX7_areMinutes_15 : decode cX7_areMinutes 15 = .ok (.iload_n 1, 1) := by decide +kernel
theorem dX7_areMinutes_16 : decode cX7_areMinutes 16 = .ok (.if_icmp .gt 7, 3) := by decide +kernel
theorem dX7_areMinutes_19 : decode cX7_areMinutes 19 = .ok (.iconst 1, 1) := by decide +kernel
theorem dX7_areMinutes_20 : decode cX7_areMinutes 20 = .ok (.goto 4, 3) := by decide +kernel
theorem dX7_areMinutes_23 : decode cX7_areMinutes 23 = .ok (.iconst 0, 1) := by decide +kernel
theorem dX7_areMinutes_24 : decode cX7_areMinutes 24 = .ok (.ireturn, 1) := by decide +kernel
theorem dX7_isEither_0 : decode cX7_isEither 0 = .ok (.iload_n 0, 1) := by decide +kernel
theorem dX7_isEither_1 : decode cX7_isEither 1 = .ok (.ifCond .eq 8, 3) := by decide +kernel
theorem dX7_isEither_4 : decode cX7_isEither 4 = .ok (.iload_n 0, 1) := by decide +kernel
theorem dX7_isEither_5 : decode cX7_isEither 5 = .ok (.iconst 1, 1) := by decide +kernel
theorem dX7_isEither_6 : decode cX7_isEither 6 = .ok (.if_icmp .ne 7, 3) := by decide +kernel
theorem dX7_isEither_9 : decode cX7_isEither 9 = .ok (.iconst 1, 1) := by decide +kernel
theorem dX7_isEither_10 : decode cX7_isEither 10 = .ok (.goto 4, 3) := by decide +kernel
theorem dX7_isEither_13 : decode cX7_isEither 13 = .ok (.iconst 0, 1) := by decide +kernel
theorem dX7_isEither_14 : decode cX7_isEither 14 = .ok (.ireturn, 1) := by decide +kernel
theorem dX7_holds_0 : decode cX7_holds 0 = .ok (.iload_n 0, 1) := by decide +kernel
theorem dX7_holds_1 : decode cX7_holds 1 = .ok (.iload_n 1, 1) := by decide +kernel
theorem dX7_holds_2 : decode cX7_holds 2 = .ok (.ishr, 1) := by decide +kernel
theorem dX7_holds_3 : decode cX7_holds 3 = .ok (.iconst 1, 1) := by decide +kernel
theorem dX7_holds_4 : decode cX7_holds 4 = .ok (.iand, 1) := by decide +kernel
theorem dX7_holds_5 : decode cX7_holds 5 = .ok (.iconst 1, 1) := by decide +kernel
theorem dX7_holds_6 : decode cX7_holds 6 = .ok (.if_icmp .ne 7, 3) := by decide +kernel
theorem dX7_holds_9 : decode cX7_holds 9 = .ok (.iconst 1, 1) := by decide +kernel
theorem dX7_holds_10 : decode cX7_holds 10 = .ok (.goto 4, 3) := by decide +kernel
theorem dX7_holds_13 : decode cX7_holds 13 = .ok (.iconst 0, 1) := by decide +kernel
theorem dX7_holds_14 : decode cX7_holds 14 = .ok (.ireturn, 1) := by decide +kernel
theorem dX7_commonDivisor_0 : decode cX7_commonDivisor 0 = .ok (.iload_n 0, 1) := by decide +kernel
theorem dX7_commonDivisor_1 : decode cX7_commonDivisor 1 = .ok (.istore_n 2, 1) := by decide +kernel
theorem dX7_commonDivisor_2 : decode cX7_commonDivisor 2 = .ok (.iload_n 1, 1) := by decide +kernel
theorem dX7_commonDivisor_3 : decode cX7_commonDivisor 3 = .ok (.istore_n 3, 1) := by decide +kernel
theorem dX7_commonDivisor_4 : decode cX7_commonDivisor 4 = .ok (.iconst 0, 1) := by decide +kernel
theorem dX7_commonDivisor_5 : decode cX7_commonDivisor 5 = .ok (.istore 4, 2) := by decide +kernel
theorem dX7_commonDivisor_7 : decode cX7_commonDivisor 7 = .ok (.iload 4, 2) := by decide +kernel
theorem dX7_commonDivisor_9 : decode cX7_commonDivisor 9 = .ok (.bipush 64, 2) := by decide +kernel
theorem dX7_commonDivisor_11 : decode cX7_commonDivisor 11 = .ok (.if_icmp .ge 23, 3) := by decide +kernel
theorem dX7_commonDivisor_14 : decode cX7_commonDivisor 14 = .ok (.iload_n 3, 1) := by decide +kernel
theorem dX7_commonDivisor_15 : decode cX7_commonDivisor 15 = .ok (.ifCond .eq 19, 3) := by decide +kernel
theorem dX7_commonDivisor_18 : decode cX7_commonDivisor 18 = .ok (.iload_n 2, 1) := by decide +kernel
theorem dX7_commonDivisor_19 : decode cX7_commonDivisor 19 = .ok (.iload_n 3, 1) := by decide +kernel
theorem dX7_commonDivisor_20 : decode cX7_commonDivisor 20 = .ok (.irem, 1) := by decide +kernel
theorem dX7_commonDivisor_21 : decode cX7_commonDivisor 21 = .ok (.istore 5, 2) := by decide +kernel
theorem dX7_commonDivisor_23 : decode cX7_commonDivisor 23 = .ok (.iload_n 3, 1) := by decide +kernel
theorem dX7_commonDivisor_24 : decode cX7_commonDivisor 24 = .ok (.istore_n 2, 1) := by decide +kernel
theorem dX7_commonDivisor_25 : decode cX7_commonDivisor 25 = .ok (.iload 5, 2) := by decide +kernel
theorem dX7_commonDivisor_27 : decode cX7_commonDivisor 27 = .ok (.istore_n 3, 1) := by decide +kernel
theorem dX7_commonDivisor_28 : decode cX7_commonDivisor 28 = .ok (.iinc 4 1, 3) := by decide +kernel
theorem dX7_commonDivisor_31 : decode cX7_commonDivisor 31 = .ok (.goto (-24), 3) := by decide +kernel
theorem dX7_commonDivisor_34 : decode cX7_commonDivisor 34 = .ok (.iload_n 2, 1) := by decide +kernel
theorem dX7_commonDivisor_35 : decode cX7_commonDivisor 35 = .ok (.ireturn, 1) := by decide +kernel
theorem dX8_init_0 : decode cX8_init 0 = .ok (.aload_n 0, 1) := by decide +kernel
theorem dX8_init_1 : decode cX8_init 1 = .ok (.invokespecial 1, 3) := by decide +kernel
theorem dX8_init_4 : decode cX8_init 4 = .ok (.aload_n 0, 1) := by decide +kernel
theorem dX8_init_5 : decode cX8_init 5 = .ok (.bipush 81, 2) := by decide +kernel
theorem dX8_init_7 : decode cX8_init 7 = .ok (.newarray .int, 2) := by decide +kernel
theorem dX8_init_9 : decode cX8_init 9 = .ok (.putfield 7, 3) := by decide +kernel
theorem dX8_init_12 : decode cX8_init 12 = .ok (.aload_n 0, 1) := by decide +kernel
theorem dX8_init_13 : decode cX8_init 13 = .ok (.iconst 2, 1) := by decide +kernel
theorem dX8_init_14 : decode cX8_init 14 = .ok (.newarray .boolean, 2) := by decide +kernel
theorem dX8_init_16 : decode cX8_init 16 = .ok (.putfield 13, 3) := by decide +kernel
theorem dX8_init_19 : decode cX8_init 19 = .ok (.aload_n 0, 1) := by decide +kernel
theorem dX8_init_20 : decode cX8_init 20 = .ok (.sipush 200, 3) := by decide +kernel
theorem dX8_init_23 : decode cX8_init 23 = .ok (.newarray .int, 2) := by decide +kernel
theorem dX8_init_25 : decode cX8_init 25 = .ok (.putfield 17, 3) := by decide +kernel
theorem dX8_init_28 : decode cX8_init 28 = .ok (.aload_n 0, 1) := by decide +kernel
theorem dX8_init_29 : decode cX8_init 29 = .ok (.bipush 60, 2) := by decide +kernel
theorem dX8_init_31 : decode cX8_init 31 = .ok (.newarray .int, 2) := by decide +kernel
theorem dX8_init_33 : decode cX8_init 33 = .ok (.putfield 20, 3) := by decide +kernel
theorem dX8_init_36 : decode cX8_init 36 = .ok (.aload_n 0, 1) := by decide +kernel
theorem dX8_init_37 : decode cX8_init 37 = .ok (.bipush 8, 2) := by decide +kernel
theorem dX8_init_39 : decode cX8_init 39 = .ok (.putfield 23, 3) := by decide +kernel
theorem dX8_init_42 : decode cX8_init 42 = .ok (.aload_n 0, 1) := by decide +kernel
theorem dX8_init_43 : decode cX8_init 43 = .ok (.bipush 6, 2) := by decide +kernel
theorem dX8_init_45 : decode cX8_init 45 = .ok (.newarray .int, 2) := by decide +kernel
theorem dX8_init_47 : decode cX8_init 47 = .ok (.putfield 27, 3) := by decide +kernel
theorem dX8_init_50 : decode cX8_init 50 = .ok (.aload_n 0, 1) := by decide +kernel
theorem dX8_init_51 : decode cX8_init 51 = .ok (.bipush 6, 2) := by decide +kernel
theorem dX8_init_53 : decode cX8_init 53 = .ok (.newarray .int, 2) := by decide +kernel
theorem dX8_init_55 : decode cX8_init 55 = .ok (.putfield 30, 3) := by decide +kernel
theorem dX8_init_58 : decode cX8_init 58 = .ok (.aload_n 0, 1) := by decide +kernel
theorem dX8_init_59 : decode cX8_init 59 = .ok (.bipush 6, 2) := by decide +kernel
theorem dX8_init_61 : decode cX8_init 61 = .ok (.newarray .int, 2) := by decide +kernel
theorem dX8_init_63 : decode cX8_init 63 = .ok (.putfield 33, 3) := by decide +kernel
theorem dX8_init_66 : decode cX8_init 66 = .ok (.aload_n 0, 1) := by decide +kernel
theorem dX8_init_67 : decode cX8_init 67 = .ok (.bipush 6, 2) := by decide +kernel
theorem dX8_init_69 : decode cX8_init 69 = .ok (.newarray .int, 2) := by decide +kernel
theorem dX8_init_71 : decode cX8_init 71 = .ok (.putfield 36, 3) := by decide +kernel
theorem dX8_init_74 : decode cX8_init 74 = .ok (.aload_n 0, 1) := by decide +kernel
theorem dX8_init_75 : decode cX8_init 75 = .ok (.bipush 6, 2) := by decide +kernel
theorem dX8_init_77 : decode cX8_init 77 = .ok (.newarray .int, 2) := by decide +kernel
theorem dX8_init_79 : decode cX8_init 79 = .ok (.putfield 39, 3) := by decide +kernel
theorem dX8_init_82 : decode cX8_init 82 = .ok (.aload_n 0, 1) := by decide +kernel
theorem dX8_init_83 : decode cX8_init 83 = .ok (.bipush 6, 2) := by decide +kernel
theorem dX8_init_85 : decode cX8_init 85 = .ok (.newarray .int, 2) := by decide +kernel
theorem dX8_init_87 : decode cX8_init 87 = .ok (.putfield 42, 3) := by decide +kernel
theorem dX8_init_90 : decode cX8_init 90 = .ok (.aload_n 0, 1) := by decide +kernel
theorem dX8_init_91 : decode cX8_init 91 = .ok (.bipush 6, 2) := by decide +kernel
theorem dX8_init_93 : decode cX8_init 93 = .ok (.newarray .int, 2) := by decide +kernel
theorem dX8_init_95 : decode cX8_init 95 = .ok (.putfield 45, 3) := by decide +kernel
theorem dX8_init_98 : decode cX8_init 98 = .ok (.aload_n 0, 1) := by decide +kernel
theorem dX8_init_99 : decode cX8_init 99 = .ok (.bipush 6, 2) := by decide +kernel
theorem dX8_init_101 : decode cX8_init 101 = .ok (.newarray .int, 2) := by decide +kernel
theorem dX8_init_103 : decode cX8_init 103 = .ok (.putfield 48, 3) := by decide +kernel
theorem dX8_init_106 : decode cX8_init 106 = .ok (.aload_n 0, 1) := by decide +kernel
theorem dX8_init_107 : decode cX8_init 107 = .ok (.bipush 6, 2) := by decide +kernel
theorem dX8_init_109 : decode cX8_init 109 = .ok (.newarray .int, 2) := by decide +kernel
theorem dX8_init_111 : decode cX8_init 111 = .ok (.putfield 51, 3) := by decide +kernel
theorem dX8_init_114 : decode cX8_init 114 = .ok (.aload_n 0, 1) := by decide +kernel
theorem dX8_init_115 : decode cX8_init 115 = .ok (.sipush 384, 3) := by decide +kernel
theorem dX8_init_118 : decode cX8_init 118 = .ok (.newarray .int, 2) := by decide +kernel
theorem dX8_init_120 : decode cX8_init 120 = .ok (.putfield 54, 3) := by decide +kernel
theorem dX8_init_123 : decode cX8_init 123 = .ok (.aload_n 0, 1) := by decide +kernel
theorem dX8_init_124 : decode cX8_init 124 = .ok (.bipush 6, 2) := by decide +kernel
theorem dX8_init_126 : decode cX8_init 126 = .ok (.newarray .int, 2) := by decide +kernel
theorem dX8_init_128 : decode cX8_init 128 = .ok (.putfield 57, 3) := by decide +kernel
theorem dX8_init_131 : decode cX8_init 131 = .ok (.aload_n 0, 1) := by decide +kernel
theorem dX8_init_132 : decode cX8_init 132 = .ok (.bipush 12, 2) := by decide +kernel
theorem dX8_init_134 : decode cX8_init 134 = .ok (.newarray .int, 2) := by decide +kernel
theorem dX8_init_136 : decode cX8_init 136 = .ok (.putfield 60, 3) := by decide +kernel
theorem dX8_init_139 : decode cX8_init 139 = .ok (.aload_n 0, 1) := by decide +kernel
theorem dX8_init_140 : decode cX8_init 140 = .ok (.invokevirtual 63, 3) := by decide +kernel
theorem dX8_init_143 : decode cX8_init 143 = .ok (.return_, 1) := by decide +kernel
theorem dX8_in_0 : decode cX8_in 0 = .ok (.lload_n 0, 1) := by decide +kernel
theorem dX8_in_1 : decode cX8_in 1 = .ok (.lload_n 2, 1) := by decide +kernel
theorem dX8_in_2 : decode cX8_in 2 = .ok (.lcmp, 1) := by decide +kernel
theorem dX8_in_3 : decode cX8_in 3 = .ok (.ifCond .lt 14, 3) := by decide +kernel
theorem dX8_in_6 : decode cX8_in 6 = .ok (.lload_n 0, 1) := by decide +kernel
theorem dX8_in_7 : decode cX8_in 7 = .ok (.lload 4, 2) := by decide +kernel
theorem dX8_in_9 : decode cX8_in 9 = .ok (.lcmp, 1) := by decide +kernel
theorem dX8_in_10 : decode cX8_in 10 = .ok (.ifCond .gt 7, 3) := by decide +kernel
theorem dX8_in_13 : decode cX8_in 13 = .ok (.iconst 1, 1) := by decide +kernel
theorem dX8_in_14 : decode cX8_in 14 = .ok (.goto 4, 3) := by decide +kernel
theorem dX8_in_17 : decode cX8_in 17 = .ok (.iconst 0, 1) := by decide +kernel
theorem dX8_in_18 : decode cX8_in 18 = .ok (.ireturn, 1) := by decide +kernel
theorem dX8_has_0 : decode cX8_has 0 = .ok (.iload_n 0, 1) := by decide +kernel
theorem dX8_has_1 : decode cX8_has 1 = .ok (.iload_n 1, 1) := by decide +kernel
theorem dX8_has_2 : decode cX8_has 2 = .ok (.ishr, 1) := by decide +kernel
theorem dX8_has_3 : decode cX8_has 3 = .ok (.iconst 1, 1) := by decide +kernel
theorem dX8_has_4 : decode cX8_has 4 = .ok (.iand, 1) := by decide +kernel
theorem dX8_has_5 : decode cX8_has 5 = .ok (.iconst 1, 1) := by decide +kernel
theorem dX8_has_6 : decode cX8_has 6 = .ok (.if_icmp .ne 7, 3) := by decide +kernel
theorem dX8_has_9 : decode cX8_has 9 = .ok (.iconst 1, 1) := by decide +kernel
theorem dX8_has_10 : decode cX8_has 10 = .ok (.goto 4, 3) := by decide +kernel
theorem dX8_has_13 : decode cX8_has 13 = .ok (.iconst 0, 1) := by decide +kernel
theorem dX8_has_14 : decode cX8_has 14 = .ok (.ireturn, 1) := by decide +kernel
theorem dX8_bits_0 : decode cX8_bits 0 = .ok (.iconst 0, 1) := by decide +kernel
theorem dX8_bits_1 : decode cX8_bits 1 = .ok (.istore_n 1, 1) := by decide +kernel
theorem dX8_bits_2 : decode cX8_bits 2 = .ok (.iconst 0, 1) := by decide +kernel
theorem dX8_bits_3 : decode cX8_bits 3 = .ok (.istore_n 2, 1) := by decide +kernel
theorem dX8_bits_4 : decode cX8_bits 4 = .ok (.iload_n 2, 1) := by decide +kernel
theorem dX8_bits_5 : decode cX8_bits 5 = .ok (.bipush 12, 2) := by decide +kernel
theorem dX8_bits_7 : decode cX8_bits 7 = .ok (.if_icmp .ge 17, 3) := by decide +kernel
theorem dX8_bits_10 : decode cX8_bits 10 = .ok (.iload_n 1, 1) := by decide +kernel
theorem dX8_bits_11 : decode cX8_bits 11 = .ok (.iload_n 0, 1) := by decide +kernel
theorem dX8_bits_12 : decode cX8_bits 12 = .ok (.iload_n 2, 1) := by decide +kernel
theorem dX8_bits_13 : decode cX8_bits 13 = .ok (.ishr, 1) := by decide +kernel
theorem dX8_bits_14 : decode cX8_bits 14 = .ok (.iconst 1, 1) := by decide +kernel
theorem dX8_bits_15 : decode cX8_bits 15 = .ok (.iand, 1) := by decide +kernel
theorem dX8_bits_16 : decode cX8_bits 16 = .ok (.iadd, 1) := by decide +kernel
theorem dX8_bits_17 : decode cX8_bits 17 = .ok (.istore_n 1, 1) := by decide +kernel
theorem dX8_bits_18 : decode cX8_bits 18 = .ok (.iinc 2 1, 3) := by decide +kernel
theorem dX8_bits_21 : decode cX8_bits 21 = .ok (.goto (-17), 3) := by decide +kernel
theorem dX8_bits_24 : decode cX8_bits 24 = .ok (.iload_n 1, 1) := by decide +kernel
theorem dX8_bits_25 : decode cX8_bits 25 = .ok (.ireturn, 1) := by decide +kernel
theorem dX8_begin_0 : decode cX8_begin 0 = .ok (.iconst 0, 1) := by decide +kernel
theorem dX8_begin_1 : decode cX8_begin 1 = .ok (.istore_n 1, 1) := by decide +kernel
theorem dX8_begin_2 : decode cX8_begin 2 = .ok (.iload_n 1, 1) := by decide +kernel
theorem dX8_begin_3 : decode cX8_begin 3 = .ok (.bipush 27, 2) := by decide +kernel
theorem dX8_begin_5 : decode cX8_begin 5 = .ok (.if_icmp .ge 34, 3) := by decide +kernel
theorem dX8_begin_8 : decode cX8_begin 8 = .ok (.aload_n 0, 1) := by decide +kernel
theorem dX8_begin_9 : decode cX8_begin 9 = .ok (.getfield 7, 3) := by decide +kernel
theorem dX8_begin_12 : decode cX8_begin 12 = .ok (.iload_n 1, 1) := by decide +kernel
theorem dX8_begin_13 : decode cX8_begin 13 = .ok (.iload_n 1, 1) := by decide +kernel
theorem dX8_begin_14 : decode cX8_begin 14 = .ok (.i2l, 1) := by decide +kernel
theorem dX8_begin_15 : decode cX8_begin 15 = .ok (.ldc2_w 66, 3) := by decide +kernel
theorem dX8_begin_18 : decode cX8_begin 18 = .ok (.ldc2_w 68, 3) := by decide +kernel
theorem dX8_begin_21 : decode cX8_begin 21 = .ok (.invokestatic 70, 3) := by decide +kernel
theorem dX8_begin_24 : decode cX8_begin 24 = .ok (.ifCond .eq 7, 3) := by decide +kernel
theorem dX8_begin_27 : decode cX8_begin 27 = .ok (.iconst (-1), 1) := by decide +kernel
theorem dX8_begin_28 : decode cX8_begin 28 = .ok (.goto 4, 3) := by decide +kernel
theorem dX8_begin_31 : decode cX8_begin 31 = .ok (.iconst 0, 1) := by decide +kernel
theorem dX8_begin_32 : decode cX8_begin 32 = .ok (.iastore, 1) := by decide +kernel
theorem dX8_begin_33 : decode cX8_begin 33 = .ok (.iinc 1 1, 3) := by decide +kernel
theorem dX8_begin_36 : decode cX8_begin 36 = .ok (.goto (-34), 3) := by decide +kernel
theorem dX8_begin_39 : decode cX8_begin 39 = .ok (.iconst 0, 1) := by decide +kernel
theorem dX8_begin_40 : decode cX8_begin 40 = .ok (.istore_n 1, 1) := by decide +kernel
theorem dX8_begin_41 : decode cX8_begin 41 = .ok (.iload_n 1, 1) := by decide +kernel
theorem dX8_begin_42 : decode cX8_begin 42 = .ok (.aload_n 0, 1) := by decide +kernel
theorem dX8_begin_43 : decode cX8_begin 43 = .ok (.getfield 74, 3) := by decide +kernel
theorem dX8_begin_46 : decode cX8_begin 46 = .ok (.if_icmp .ge 23, 3) := by decide +kernel
theorem dX8_begin_49 : decode cX8_begin 49 = .ok (.aload_n 0, 1) := by decide +kernel
theorem dX8_begin_50 : decode cX8_begin 50 = .ok (.getfield 7, 3) := by decide +kernel
theorem dX8_begin_53 : decode cX8_begin 53 = .ok (.iconst 3, 1) := by decide +kernel
theorem dX8_begin_54 : decode cX8_begin 54 = .ok (.iload_n 1, 1) := by decide +kernel
theorem dX8_begin_55 : decode cX8_begin 55 = .ok (.iadd, 1) := by decide +kernel
theorem dX8_begin_56 : decode cX8_begin 56 = .ok (.aload_n 0, 1) := by decide +kernel
theorem dX8_begin_57 : decode cX8_begin 57 = .ok (.getfield 30, 3) := by decide +kernel
theorem dX8_begin_60 : decode cX8_begin 60 = .ok (.iload_n 1, 1) := by decide +kernel
theorem dX8_begin_61 : decode cX8_begin 61 = .ok (.iaload, 1) := by decide +kernel
theorem dX8_begin_62 : decode cX8_begin 62 = .ok (.iastore, 1) := by decide +kernel
theorem dX8_begin_63 : decode cX8_begin 63 = .ok (.iinc 1 1, 3) := by decide +kernel
theorem dX8_begin_66 : decode cX8_begin 66 = .ok (.goto (-25), 3) := by decide +kernel
theorem dX8_begin_69 : decode cX8_begin 69 = .ok (.return_, 1) := by decide +kernel
theorem dX8_write_0 : decode cX8_write 0 = .ok (.iload_n 3, 1) := by decide +kernel
theorem dX8_write_1 : decode cX8_write 1 = .ok (.i2l, 1) := by decide +kernel
theorem dX8_write_2 : decode cX8_write 2 = .ok (.lconst 1, 1) := by decide +kernel
theorem dX8_write_3 : decode cX8_write 3 = .ok (.ldc2_w 77, 3) := by decide +kernel
theorem dX8_write_6 : decode cX8_write 6 = .ok (.invokestatic 70, 3) := by decide +kernel
theorem dX8_write_9 : decode cX8_write 9 = .ok (.ifCond .ne 6, 3) := by decide +kernel
theorem dX8_write_12 : decode cX8_write 12 = .ok (.bipush (-3), 2) := by decide +kernel
theorem dX8_write_14 : decode cX8_write 14 = .ok (.ireturn, 1) := by decide +kernel
theorem dX8_write_15 : decode cX8_write 15 = .ok (.aload_n 0, 1) := by decide +kernel
theorem dX8_write_16 : decode cX8_write 16 = .ok (.getfield 79, 3) := by decide +kernel
theorem dX8_write_19 : decode cX8_write 19 = .ok (.iload_n 3, 1) := by decide +kernel
theorem dX8_write_20 : decode cX8_write 20 = .ok (.iadd, 1) := by decide +kernel
theorem dX8_write_21 : decode cX8_write 21 = .ok (.sipush 200, 3) := by decide +kernel
theorem dX8_write_24 : decode cX8_write 24 = .ok (.if_icmp .le 6, 3) := by decide +kernel
theorem dX8_write_27 : decode cX8_write 27 = .ok (.bipush (-5), 2) := by decide +kernel
theorem dX8_write_29 : decode cX8_write 29 = .ok (.ireturn, 1) := by decide +kernel
theorem dX8_write_30 : decode cX8_write 30 = .ok (.iconst 0, 1) := by decide +kernel
theorem dX8_write_31 : decode cX8_write 31 = .ok (.istore 4, 2) := by decide +kernel
theorem dX8_write_33 : decode cX8_write 33 = .ok (.iload 4, 2) := by decide +kernel
theorem dX8_write_35 : decode cX8_write 35 = .ok (.iload_n 3, 1) := by decide +kernel
theorem dX8_write_36 : decode cX8_write 36 = .ok (.if_icmp .ge 40, 3) := by decide +kernel
theorem dX8_write_39 : decode cX8_write 39 = .ok (.aload_n 0, 1) := by decide +kernel
theorem dX8_write_40 : decode cX8_write 40 = .ok (.getfield 17, 3) := by decide +kernel
theorem dX8_write_43 : decode cX8_write 43 = .ok (.aload_n 0, 1) := by decide +kernel
theorem dX8_write_44 : decode cX8_write 44 = .ok (.getfield 79, 3) := by decide +kernel
theorem dX8_write_47 : decode cX8_write 47 = .ok (.lload_n 1, 1) := by decide +kernel
theorem dX8_write_48 : decode cX8_write 48 = .ok (.bipush 8, 2) := by decide +kernel
theorem dX8_write_50 : decode cX8_write 50 = .ok (.iload 4, 2) := by decide +kernel
theorem dX8_write_52 : decode cX8_write 52 = .ok (.imul, 1) := by decide +kernel
theorem dX8_write_53 : decode cX8_write 53 = .ok (.lshr, 1) := by decide +kernel
theorem dX8_write_54 : decode cX8_write 54 = .ok (.ldc2_w 82, 3) := by decide +kernel
theorem dX8_write_57 : decode cX8_write 57 = .ok (.land, 1) := by decide +kernel
theorem dX8_write_58 : decode cX8_write 58 = .ok (.l2i, 1) := by decide +kernel
theorem dX8_write_59 : decode cX8_write 59 = .ok (.iastore, 1) := by decide +kernel
theorem dX8_write_60 : decode cX8_write 60 = .ok (.aload_n 0, 1) := by decide +kernel
theorem dX8_write_61 : decode cX8_write 61 = .ok (.dup, 1) := by decide +kernel
theorem dX8_write_62 : decode cX8_write 62 = .ok (.getfield 79, 3) := by decide +kernel
theorem dX8_write_65 : decode cX8_write 65 = .ok (.iconst 1, 1) := by decide +kernel
theorem dX8_write_66 : decode cX8_write 66 = .ok (.iadd, 1) := by decide +kernel
theorem dX8_write_67 : decode cX8_write 67 = .ok (.putfield 79, 3) := by decide +kernel
theorem dX8_write_70 : decode cX8_write 70 = .ok (.iinc 4 1, 3) := by decide +kernel
theorem dX8_write_73 : decode cX8_write 73 = .ok (.goto (-40), 3) := by decide +kernel
theorem dX8_write_76 : decode cX8_write 76 = .ok (.aload_n 0, 1) := by decide +kernel
theorem dX8_write_77 : decode cX8_write 77 = .ok (.getfield 79, 3) := by decide +kernel
theorem dX8_write_80 : decode cX8_write 80 = .ok (.ireturn, 1) := by decide +kernel
theorem dX8_erase_0 : decode cX8_erase 0 = .ok (.aload_n 0, 1) := by decide +kernel
theorem dX8_erase_1 : decode cX8_erase 1 = .ok (.getfield 79, 3) := by decide +kernel
theorem dX8_erase_4 : decode cX8_erase 4 = .ok (.istore_n 1, 1) := by decide +kernel
theorem dX8_erase_5 : decode cX8_erase 5 = .ok (.aload_n 0, 1) := by decide +kernel
theorem dX8_erase_6 : decode cX8_erase 6 = .ok (.iconst 0, 1) := by decide +kernel
theorem dX8_erase_7 : decode cX8_erase 7 = .ok (.putfield 79, 3) := by decide +kernel
theorem dX8_erase_10 : decode cX8_erase 10 = .ok (.iload_n 1, 1) := by decide +kernel
theorem dX8_erase_11 : decode cX8_erase 11 = .ok (.ireturn, 1) := by decide +kernel
theorem dX8_sort_0 : decode cX8_sort 0 = .ok (.iload_n 0, 1) := by decide +kernel
theorem dX8_sort_1 : decode cX8_sort 1 = .ok (.bipush 97, 2) := by decide +kernel
theorem dX8_sort_3 : decode cX8_sort 3 = .ok (.if_icmp .lt 13, 3) := by decide +kernel
theorem dX8_sort_6 : decode cX8_sort 6 = .ok (.iload_n 0, 1) := by decide +kernel
theorem dX8_sort_7 : decode cX8_sort 7 = .ok (.bipush 122, 2) := by decide +kernel
theorem dX8_sort_9 : decode cX8_sort 9 = .ok (.if_icmp .gt 7, 3) := by decide +kernel
theorem dX8_sort_12 : decode cX8_sort 12 = .ok (.iconst 1, 1) := by decide +kernel
theorem dX8_sort_13 : decode cX8_sort 13 = .ok (.goto 20, 3) := by decide +kernel
theorem dX8_sort_16 : decode cX8_sort 16 = .ok (.iload_n 0, 1) := by decide +kernel
theorem dX8_sort_17 : decode cX8_sort 17 = .ok (.bipush 48, 2) := by decide +kernel
theorem dX8_sort_19 : decode cX8_sort 19 = .ok (.if_icmp .lt 13, 3) := by decide +kernel
theorem dX8_sort_22 : decode cX8_sort 22 = .ok (.iload_n 0, 1) := by decide +kernel
theorem dX8_sort_23 : decode cX8_sort 23 = .ok (.bipush 57, 2) := by decide +kernel
theorem dX8_sort_25 : decode cX8_sort 25 = .ok (.if_icmp .gt 7, 3) := by decide +kernel
theorem dX8_sort_28 : decode cX8_sort 28 = .ok (.iconst 2, 1) := by decide +kernel
theorem dX8_sort_29 : decode cX8_sort 29 = .ok (.goto 4, 3) := by decide +kernel
theorem dX8_sort_32 : decode cX8_sort 32 = .ok (.iconst 0, 1) := by decide +kernel
theorem dX8_sort_33 : decode cX8_sort 33 = .ok (.ireturn, 1) := by decide +kernel
theorem dX8_token_0 : decode cX8_token 0 = .ok (.aload_n 0, 1) := by decide +kernel
theorem dX8_token_1 : decode cX8_token 1 = .ok (.getfield 84, 3) := by decide +kernel
theorem dX8_token_4 : decode cX8_token 4 = .ok (.aload_n 0, 1) := by decide +kernel
theorem dX8_token_5 : decode cX8_token 5 = .ok (.getfield 79, 3) := by decide +kernel
theorem dX8_token_8 : decode cX8_token 8 = .ok (.if_icmp .ge 30, 3) := by decide +kernel
theorem dX8_token_11 : decode cX8_token 11 = .ok (.aload_n 0, 1) := by decide +kernel
theorem dX8_token_12 : decode cX8_token 12 = .ok (.getfield 17, 3) := by decide +kernel
theorem dX8_token_15 : decode cX8_token 15 = .ok (.aload_n 0, 1) := by decide +kernel
theorem dX8_token_16 : decode cX8_token 16 = .ok (.getfield 84, 3) := by decide +kernel
theorem dX8_token_19 : decode cX8_token 19 = .ok (.iaload, 1) := by decide +kernel
theorem dX8_token_20 : decode cX8_token 20 = .ok (.bipush 32, 2) := by decide +kernel
theorem dX8_token_22 : decode cX8_token 22 = .ok (.if_icmp .ne 16, 3) := by decide +kernel
theorem dX8_token_25 : decode cX8_token 25 = .ok (.aload_n 0, 1) := by decide +kernel
theorem dX8_token_26 : decode cX8_token 26 = .ok (.dup, 1) := by decide +kernel
theorem dX8_token_27 : decode cX8_token 27 = .ok (.getfield 84, 3) := by decide +kernel
theorem dX8_token_30 : decode cX8_token 30 = .ok (.iconst 1, 1) := by decide +kernel
theorem dX8_token_31 : decode cX8_token 31 = .ok (.iadd, 1) := by decide +kernel
theorem dX8_token_32 : decode cX8_token 32 = .ok (.putfield 84, 3) := by decide +kernel
theorem dX8_token_35 : decode cX8_token 35 = .ok (.goto (-35), 3) := by decide +kernel
theorem dX8_token_38 : decode cX8_token 38 = .ok (.aload_n 0, 1) := by decide +kernel
theorem dX8_token_39 : decode cX8_token 39 = .ok (.aload_n 0, 1) := by decide +kernel
theorem dX8_token_40 : decode cX8_token 40 = .ok (.getfield 84, 3) := by decide +kernel
theorem dX8_token_43 : decode cX8_token 43 = .ok (.putfield 87, 3) := by decide +kernel
theorem dX8_token_46 : decode cX8_token 46 = .ok (.aload_n 0, 1) := by decide +kernel
theorem dX8_token_47 : decode cX8_token 47 = .ok (.dup, 1) := by decide +kernel
theorem dX8_token_48 : decode cX8_token 48 = .ok (.getfield 84, 3) := by decide +kernel
theorem dX8_token_51 : decode cX8_token 51 = .ok (.aload_n 0, 1) := by decide +kernel
theorem dX8_token_52 : decode cX8_token 52 = .ok (.getfield 84, 3) := by decide +kernel
theorem dX8_token_55 : decode cX8_token 55 = .ok (.aload_n 0, 1) := by decide +kernel
theorem dX8_token_56 : decode cX8_token 56 = .ok (.getfield 79, 3) := by decide +kernel
theorem dX8_token_59 : decode cX8_token 59 = .ok (.if_icmp .ge 7, 3) := by decide +kernel
theorem dX8_token_62 : decode cX8_token 62 = .ok (.iconst 1, 1) := by decide +kernel
theorem dX8_token_63 : decode cX8_token 63 = .ok (.goto 4, 3) := by decide +kernel
theorem dX8_token_66 : decode cX8_token 66 = .ok (.iconst 0, 1) := by decide +kernel
theorem dX8_token_67 : decode cX8_token 67 = .ok (.iadd, 1) := by decide +kernel
theorem dX8_token_68 : decode cX8_token 68 = .ok (.putfield 84, 3) := by decide +kernel
theorem dX8_token_71 : decode cX8_token 71 = .ok (.aload_n 0, 1) := by decide +kernel
theorem dX8_token_72 : decode cX8_token 72 = .ok (.getfield 84, 3) := by decide +kernel
theorem dX8_token_75 : decode cX8_token 75 = .ok (.aload_n 0, 1) := by decide +kernel
theorem dX8_token_76 : decode cX8_token 76 = .ok (.getfield 79, 3) := by decide +kernel
theorem dX8_token_79 : decode cX8_token 79 = .ok (.if_icmp .ge 58, 3) := by decide +kernel
theorem dX8_token_82 : decode cX8_token 82 = .ok (.aload_n 0, 1) := by decide +kernel
theorem dX8_token_83 : decode cX8_token 83 = .ok (.getfield 17, 3) := by decide +kernel
theorem dX8_token_86 : decode cX8_token 86 = .ok (.aload_n 0, 1) := by decide +kernel
theorem dX8_token_87 : decode cX8_token 87 = .ok (.getfield 87, 3) := by decide +kernel
theorem dX8_token_90 : decode cX8_token 90 = .ok (.iaload, 1) := by decide +kernel
theorem dX8_token_91 : decode cX8_token 91 = .ok (.invokestatic 90, 3) := by decide +kernel
theorem dX8_token_94 : decode cX8_token 94 = .ok (.ifCond .le 43, 3) := by decide +kernel
theorem dX8_token_97 : decode cX8_token 97 = .ok (.aload_n 0, 1) := by decide +kernel
theorem dX8_token_98 : decode cX8_token 98 = .ok (.getfield 17, 3) := by decide +kernel
theorem dX8_token_101 : decode cX8_token 101 = .ok (.aload_n 0, 1) := by decide +kernel
theorem dX8_token_102 : decode cX8_token 102 = .ok (.getfield 84, 3) := by decide +kernel
theorem dX8_token_105 : decode cX8_token 105 = .ok (.iaload, 1) := by decide +kernel
theorem dX8_token_106 : decode cX8_token 106 = .ok (.invokestatic 90, 3) := by decide +kernel
theorem dX8_token_109 : decode cX8_token 109 = .ok (.aload_n 0, 1) := by decide +kernel
theorem dX8_token_110 : decode cX8_token 110 = .ok (.getfield 17, 3) := by decide +kernel
theorem dX8_token_113 : decode cX8_token 113 = .ok (.aload_n 0, 1) := by decide +kernel
theorem dX8_token_114 : decode cX8_token 114 = .ok (.getfield 87, 3) := by decide +kernel
theorem dX8_token_117 : decode cX8_token 117 = .ok (.iaload, 1) := by decide +kernel
theorem dX8_token_118 : decode cX8_token 118 = .ok (.invokestatic 90, 3) := by decide +kernel
theorem dX8_token_121 : decode cX8_token 121 = .ok (.if_icmp .ne 16, 3) := by decide +kernel
theorem dX8_token_124 : decode cX8_token 124 = .ok (.aload_n 0, 1) := by decide +kernel
theorem dX8_token_125 : decode cX8_token 125 = .ok (.dup, 1) := by decide +kernel
theorem dX8_token_126 : decode cX8_token 126 = .ok (.getfield 84, 3) := by decide +kernel
theorem dX8_token_129 : decode cX8_token 129 = .ok (.iconst 1, 1) := by decide +kernel
theorem dX8_token_130 : decode cX8_token 130 = .ok (.iadd, 1) := by decide +kernel
theorem dX8_token_131 : decode cX8_token 131 = .ok (.putfield 84, 3) := by decide +kernel
theorem dX8_token_134 : decode cX8_token 134 = .ok (.goto (-63), 3) := by decide +kernel
theorem dX8_token_137 : decode cX8_token 137 = .ok (.aload_n 0, 1) := by decide +kernel
theorem dX8_token_138 : decode cX8_token 138 = .ok (.aload_n 0, 1) := by decide +kernel
theorem dX8_token_139 : decode cX8_token 139 = .ok (.getfield 84, 3) := by decide +kernel
theorem dX8_token_142 : decode cX8_token 142 = .ok (.putfield 94, 3) := by decide +kernel
theorem dX8_token_145 : decode cX8_token 145 = .ok (.return_, 1) := by decide +kernel
theorem dX8_isWord_0 : decode cX8_isWord 0 = .ok (.aload_n 0, 1) := by decide +kernel
theorem dX8_isWord_1 : decode cX8_isWord 1 = .ok (.getfield 94, 3) := by decide +kernel
theorem dX8_isWord_4 : decode cX8_isWord 4 = .ok (.aload_n 0, 1) := by decide +kernel
theorem dX8_isWord_5 : decode cX8_isWord 5 = .ok (.getfield 87, 3) := by decide +kernel
theorem dX8_isWord_8 : decode cX8_isWord 8 = .ok (.isub, 1) := by decide +kernel
theorem dX8_isWord_9 : decode cX8_isWord 9 = .ok (.iload_n 2, 1) := by decide +kernel
theorem dX8_isWord_10 : decode cX8_isWord 10 = .ok (.if_icmp .ne 7, 3) := by decide +kernel
theorem dX8_isWord_13 : decode cX8_isWord 13 = .ok (.iconst 1, 1) := by decide +kernel
theorem dX8_isWord_14 : decode cX8_isWord 14 = .ok (.goto 4, 3) := by decide +kernel
theorem dX8_isWord_17 : decode cX8_isWord 17 = .ok (.iconst 0, 1) := by decide +kernel
theorem dX8_isWord_18 : decode cX8_isWord 18 = .ok (.istore_n 3, 1) := by decide +kernel
theorem dX8_isWord_19 : decode cX8_isWord 19 = .ok (.iconst 0, 1) := by decide +kernel
theorem dX8_isWord_20 : decode cX8_isWord 20 = .ok (.istore 4, 2) := by decide +kernel
theorem dX8_isWord_22 : decode cX8_isWord 22 = .ok (.iload_n 3, 1) := by decide +kernel
theorem dX8_isWord_23 : decode cX8_isWord 23 = .ok (.ifCond .eq 48, 3) := by decide +kernel
theorem dX8_isWord_26 : decode cX8_isWord 26 = .ok (.iload 4, 2) := by decide +kernel
theorem dX8_isWord_28 : decode cX8_isWord 28 = .ok (.iload_n 2, 1) := by decide +kernel
theorem dX8_isWord_29 : decode cX8_isWord 29 = .ok (.if_icmp .ge 42, 3) := by decide +kernel
theorem dX8_isWord_32 : decode cX8_isWord 32 = .ok (.aload_n 0, 1) := by decide +kernel
theorem dX8_isWord_33 : decode cX8_isWord 33 = .ok (.getfield 17, 3) := by decide +kernel
theorem dX8_isWord_36 : decode cX8_isWord 36 = .ok (.aload_n 0, 1) := by decide +kernel
theorem dX8_isWord_37 : decode cX8_isWord 37 = .ok (.getfield 87, 3) := by decide +kernel
theorem dX8_isWord_40 : decode cX8_isWord 40 = .ok (.iload 4, 2) := by decide +kernel
theorem dX8_isWord_42 : decode cX8_isWord 42 = .ok (.iadd, 1) := by decide +kernel
theorem dX8_isWord_43 : decode cX8_isWord 43 = .ok (.iaload, 1) := by decide +kernel
theorem dX8_isWord_44 : decode cX8_isWord 44 = .ok (.bipush 96, 2) := by decide +kernel
theorem dX8_isWord_46 : decode cX8_isWord 46 = .ok (.iload_n 1, 1) := by decide +kernel
theorem dX8_isWord_47 : decode cX8_isWord 47 = .ok (.iconst 5, 1) := by decide +kernel
theorem dX8_isWord_48 : decode cX8_isWord 48 = .ok (.iload 4, 2) := by decide +kernel
theorem dX8_isWord_50 : decode cX8_isWord 50 = .ok (.imul, 1) := by decide +kernel
theorem dX8_isWord_51 : decode cX8_isWord 51 = .ok (.ishr, 1) := by decide +kernel
theorem dX8_isWord_52 : decode cX8_isWord 52 = .ok (.bipush 31, 2) := by decide +kernel
theorem dX8_isWord_54 : decode cX8_isWord 54 = .ok (.iand, 1) := by decide +kernel
theorem dX8_isWord_55 : decode cX8_isWord 55 = .ok (.iadd, 1) := by decide +kernel
theorem dX8_isWord_56 : decode cX8_isWord 56 = .ok (.if_icmp .ne 7, 3) := by decide +kernel
theorem dX8_isWord_59 : decode cX8_isWord 59 = .ok (.iconst 1, 1) := by decide +kernel
theorem dX8_isWord_60 : decode cX8_isWord 60 = .ok (.goto 4, 3) := by decide +kernel
theorem dX8_isWord_63 : decode cX8_isWord 63 = .ok (.iconst 0, 1) := by decide +kernel
theorem dX8_isWord_64 : decode cX8_isWord 64 = .ok (.istore_n 3, 1) := by decide +kernel
theorem dX8_isWord_65 : decode cX8_isWord 65 = .ok (.iinc 4 1, 3) := by decide +kernel
theorem dX8_isWord_68 : decode cX8_isWord 68 = .ok (.goto (-46), 3) := by decide +kernel
theorem dX8_isWord_71 : decode cX8_isWord 71 = .ok (.iload_n 3, 1) := by decide +kernel
theorem dX8_isWord_72 : decode cX8_isWord 72 = .ok (.ireturn, 1) := by decide +kernel
theorem dX8_guestWord_0 : decode cX8_guestWord 0 = .ok (.aload_n 0, 1) := by decide +kernel
theorem dX8_guestWord_1 : decode cX8_guestWord 1 = .ok (.ldc 97, 2) := by decide +kernel
theorem dX8_guestWord_3 : decode cX8_guestWord 3 = .ok (.iconst 5, 1) := by decide +kernel
theorem dX8_guestWord_4 : decode cX8_guestWord 4 = .ok (.invokevirtual 98, 3) := by decide +kernel
theorem dX8_guestWord_7 : decode cX8_guestWord 7 = .ok (.ifCond .eq 7, 3) := by decide +kernel
theorem dX8_guestWord_10 : decode cX8_guestWord 10 = .ok (.iconst 3, 1) := by decide +kernel
theorem dX8_guestWord_11 : decode cX8_guestWord 11 = .ok (.goto 48, 3) := by decide +kernel
theorem dX8_guestWord_14 : decode cX8_guestWord 14 = .ok (.aload_n 0, 1) := by decide +kernel
theorem dX8_guestWord_15 : decode cX8_guestWord 15 = .ok (.sipush 26003, 3) := by decide +kernel
theorem dX8_guestWord_18 : decode cX8_guestWord 18 = .ok (.iconst 3, 1) := by decide +kernel
theorem dX8_guestWord_19 : decode cX8_guestWord 19 = .ok (.invokevirtual 98, 3) := by decide +kernel
theorem dX8_guestWord_22 : decode cX8_guestWord 22 = .ok (.ifCond .eq 7, 3) := by decide +kernel
theorem dX8_guestWord_25 : decode cX8_guestWord 25 = .ok (.iconst 4, 1) := by decide +kernel
theorem dX8_guestWord_26 : decode cX8_guestWord 26 = .ok (.goto 33, 3) := by decide +kernel
theorem dX8_guestWord_29 : decode cX8_guestWord 29 = .ok (.aload_n 0, 1) := by decide +kernel
theorem dX8_guestWord_30 : decode cX8_guestWord 30 = .ok (.ldc 102, 2) := by decide +kernel
theorem dX8_guestWord_32 : decode cX8_guestWord 32 = .ok (.iconst 5, 1) := by decide +kernel
theorem dX8_guestWord_33 : decode cX8_guestWord 33 = .ok (.invokevirtual 98, 3) := by decide +kernel
theorem dX8_guestWord_36 : decode cX8_guestWord 36 = .ok (.ifCond .eq 7, 3) := by decide +kernel
theorem dX8_guestWord_39 : decode cX8_guestWord 39 = .ok (.iconst 5, 1) := by decide +kernel
theorem dX8_guestWord_40 : decode cX8_guestWord 40 = .ok (.goto 19, 3) := by decide +kernel
theorem dX8_guestWord_43 : decode cX8_guestWord 43 = .ok (.aload_n 0, 1) := by decide +kernel
theorem dX8_guestWord_44 : decode cX8_guestWord 44 = .ok (.ldc 103, 2) := by decide +kernel
theorem dX8_guestWord_46 : decode cX8_guestWord 46 = .ok (.iconst 5, 1) := by decide +kernel
theorem dX8_guestWord_47 : decode cX8_guestWord 47 = .ok (.invokevirtual 98, 3) := by decide +kernel
theorem dX8_guestWord_50 : decode cX8_guestWord 50 = .ok (.ifCond .eq 8, 3) := by decide +kernel
theorem dX8_guestWord_53 : decode cX8_guestWord 53 = .ok (.bipush 6, 2) := by decide +kernel
theorem dX8_guestWord_55 : decode cX8_guestWord 55 = .ok (.goto 4, 3) := by decide +kernel
theorem dX8_guestWord_58 : decode cX8_guestWord 58 = .ok (.iconst (-1), 1) := by decide +kernel
theorem dX8_guestWord_59 : decode cX8_guestWord 59 = .ok (.ireturn, 1) := by decide +kernel
theorem dX8_wordOf_0 : decode cX8_wordOf 0 = .ok (.aload_n 0, 1) := by decide +kernel
theorem dX8_wordOf_1 : decode cX8_wordOf 1 = .ok (.invokevirtual 104, 3) := by decide +kernel
theorem dX8_wordOf_4 : decode cX8_wordOf 4 = .ok (.istore_n 1, 1) := by decide +kernel
theorem dX8_wordOf_5 : decode cX8_wordOf 5 = .ok (.iload_n 1, 1) := by decide +kernel
theorem dX8_wordOf_6 : decode cX8_wordOf 6 = .ok (.iconst (-1), 1) := by decide +kernel
theorem dX8_wordOf_7 : decode cX8_wordOf 7 = .ok (.if_icmp .eq 7, 3) := by decide +kernel
theorem dX8_wordOf_10 : decode cX8_wordOf 10 = .ok (.iload_n 1, 1) := by decide +kernel
theorem dX8_wordOf_11 : decode cX8_wordOf 11 = .ok (.goto 63, 3) := by decide +kernel
theorem dX8_wordOf_14 : decode cX8_wordOf 14 = .ok (.aload_n 0, 1) := by decide +kernel
theorem dX8_wordOf_15 : decode cX8_wordOf 15 = .ok (.sipush 14793, 3) := by decide +kernel
theorem dX8_wordOf_18 : decode cX8_wordOf 18 = .ok (.iconst 3, 1) := by decide +kernel
theorem dX8_wordOf_19 : decode cX8_wordOf 19 = .ok (.invokevirtual 98, 3) := by decide +kernel
theorem dX8_wordOf_22 : decode cX8_wordOf 22 = .ok (.ifCond .eq 7, 3) := by decide +kernel
theorem dX8_wordOf_25 : decode cX8_wordOf 25 = .ok (.iconst 0, 1) := by decide +kernel
theorem dX8_wordOf_26 : decode cX8_wordOf 26 = .ok (.goto 48, 3) := by decide +kernel
theorem dX8_wordOf_29 : decode cX8_wordOf 29 = .ok (.aload_n 0, 1) := by decide +kernel
theorem dX8_wordOf_30 : decode cX8_wordOf 30 = .ok (.ldc 108, 2) := by decide +kernel
theorem dX8_wordOf_32 : decode cX8_wordOf 32 = .ok (.iconst 5, 1) := by decide +kernel
theorem dX8_wordOf_33 : decode cX8_wordOf 33 = .ok (.invokevirtual 98, 3) := by decide +kernel
theorem dX8_wordOf_36 : decode cX8_wordOf 36 = .ok (.ifCond .eq 7, 3) := by decide +kernel
theorem dX8_wordOf_39 : decode cX8_wordOf 39 = .ok (.iconst 1, 1) := by decide +kernel
theorem dX8_wordOf_40 : decode cX8_wordOf 40 = .ok (.goto 34, 3) := by decide +kernel
theorem dX8_wordOf_43 : decode cX8_wordOf 43 = .ok (.aload_n 0, 1) := by decide +kernel
theorem dX8_wordOf_44 : decode cX8_wordOf 44 = .ok (.ldc 109, 2) := by decide +kernel
theorem dX8_wordOf_46 : decode cX8_wordOf 46 = .ok (.iconst 4, 1) := by decide +kernel
theorem dX8_wordOf_47 : decode cX8_wordOf 47 = .ok (.invokevirtual 98, 3) := by decide +kernel
theorem dX8_wordOf_50 : decode cX8_wordOf 50 = .ok (.ifCond .eq 7, 3) := by decide +kernel
theorem dX8_wordOf_53 : decode cX8_wordOf 53 = .ok (.iconst 2, 1) := by decide +kernel
theorem dX8_wordOf_54 : decode cX8_wordOf 54 = .ok (.goto 20, 3) := by decide +kernel
theorem dX8_wordOf_57 : decode cX8_wordOf 57 = .ok (.aload_n 0, 1) := by decide +kernel
theorem dX8_wordOf_58 : decode cX8_wordOf 58 = .ok (.ldc 110, 2) := by decide +kernel
theorem dX8_wordOf_60 : decode cX8_wordOf 60 = .ok (.bipush 6, 2) := by decide +kernel
theorem dX8_wordOf_62 : decode cX8_wordOf 62 = .ok (.invokevirtual 98, 3) := by decide +kernel
theorem dX8_wordOf_65 : decode cX8_wordOf 65 = .ok (.ifCond .eq 8, 3) := by decide +kernel
theorem dX8_wordOf_68 : decode cX8_wordOf 68 = .ok (.bipush 7, 2) := by decide +kernel
theorem dX8_wordOf_70 : decode cX8_wordOf 70 = .ok (.goto 4, 3) := by decide +kernel
theorem dX8_wordOf_73 : decode cX8_wordOf 73 = .ok (.iconst (-1), 1) := by decide +kernel
theorem dX8_wordOf_74 : decode cX8_wordOf 74 = .ok (.ireturn, 1) := by decide +kernel
theorem dX8_numberHere_0 : decode cX8_numberHere 0 = .ok (.aload_n 0, 1) := by decide +kernel
theorem dX8_numberHere_1 : decode cX8_numberHere 1 = .ok (.getfield 87, 3) := by decide +kernel
theorem dX8_numberHere_4 : decode cX8_numberHere 4 = .ok (.aload_n 0, 1) := by decide +kernel
theorem dX8_numberHere_5 : decode cX8_numberHere 5 = .ok (.getfield 79, 3) := by decide +kernel
theorem dX8_numberHere_8 : decode cX8_numberHere 8 = .ok (.if_icmp .eq 32, 3) := by decide +kernel
theorem dX8_numberHere_11 : decode cX8_numberHere 11 = .ok (.aload_n 0, 1) := by decide +kernel
theorem dX8_numberHere_12 : decode cX8_numberHere 12 = .ok (.getfield 17, 3) := by decide +kernel
theorem dX8_numberHere_15 : decode cX8_numberHere 15 = .ok (.aload_n 0, 1) := by decide +kernel
theorem dX8_numberHere_16 : decode cX8_numberHere 16 = .ok (.getfield 87, 3) := by decide +kernel
theorem dX8_numberHere_19 : decode cX8_numberHere 19 = .ok (.iaload, 1) := by decide +kernel
theorem dX8_numberHere_20 : decode cX8_numberHere 20 = .ok (.invokestatic 90, 3) := by decide +kernel
theorem dX8_numberHere_23 : decode cX8_numberHere 23 = .ok (.iconst 2, 1) := by decide +kernel
theorem dX8_numberHere_24 : decode cX8_numberHere 24 = .ok (.if_icmp .ne 16, 3) := by decide +kernel
theorem dX8_numberHere_27 : decode cX8_numberHere 27 = .ok (.aload_n 0, 1) := by decide +kernel
theorem dX8_numberHere_28 : decode cX8_numberHere 28 = .ok (.getfield 94, 3) := by decide +kernel
theorem dX8_numberHere_31 : decode cX8_numberHere 31 = .ok (.aload_n 0, 1) := by decide +kernel
theorem dX8_numberHere_32 : decode cX8_numberHere 32 = .ok (.getfield 87, 3) := by decide +kernel
theorem dX8_numberHere_35 : decode cX8_numberHere 35 = .ok (.isub, 1) := by decide +kernel
theorem dX8_numberHere_36 : decode cX8_numberHere 36 = .ok (.iconst 2, 1) := by decide +kernel
theorem dX8_numberHere_37 : decode cX8_numberHere 37 = .ok (.if_icmp .le 5, 3) := by decide +kernel
theorem dX8_numberHere_40 : decode cX8_numberHere 40 = .ok (.iconst (-1), 1) := by decide +kernel
theorem dX8_numberHere_41 : decode cX8_numberHere 41 = .ok (.ireturn, 1) := by decide +kernel
theorem dX8_numberHere_42 : decode cX8_numberHere 42 = .ok (.iconst 0, 1) := by decide +kernel
theorem dX8_numberHere_43 : decode cX8_numberHere 43 = .ok (.istore_n 1, 1) := by decide +kernel
theorem dX8_numberHere_44 : decode cX8_numberHere 44 = .ok (.aload_n 0, 1) := by decide +kernel
theorem dX8_numberHere_45 : decode cX8_numberHere 45 = .ok (.getfield 87, 3) := by decide +kernel
theorem dX8_numberHere_48 : decode cX8_numberHere 48 = .ok (.istore_n 2, 1) := by decide +kernel
theorem dX8_numberHere_49 : decode cX8_numberHere 49 = .ok (.iload_n 2, 1) := by decide +kernel
theorem dX8_numberHere_50 : decode cX8_numberHere 50 = .ok (.aload_n 0, 1) := by decide +kernel
theorem dX8_numberHere_51 : decode cX8_numberHere 51 = .ok (.getfield 94, 3) := by decide +kernel
theorem dX8_numberHere_54 : decode cX8_numberHere 54 = .ok (.if_icmp .ge 24, 3) := by decide +kernel
theorem dX8_numberHere_57 : decode cX8_numberHere 57 = .ok (.bipush 10, 2) := by decide +kernel
theorem dX8_numberHere_59 : decode cX8_numberHere 59 = .ok (.iload_n 1, 1) := by decide +kernel
theorem dX8_numberHere_60 : decode cX8_numberHere 60 = .ok (.imul, 1) := by decide +kernel
theorem dX8_numberHere_61 : decode cX8_numberHere 61 = .ok (.aload_n 0, 1) := by decide +kernel
theorem dX8_numberHere_62 : decode cX8_numberHere 62 = .ok (.getfield 17, 3) := by decide +kernel
theorem dX8_numberHere_65 : decode cX8_numberHere 65 = .ok (.iload_n 2, 1) := by decide +kernel
theorem dX8_numberHere_66 : decode cX8_numberHere 66 = .ok (.iaload, 1) := by decide +kernel
theorem dX8_numberHere_67 : decode cX8_numberHere 67 = .ok (.iadd, 1) := by decide +kernel
theorem dX8_numberHere_68 : decode cX8_numberHere 68 = .ok (.bipush 48, 2) := by decide +kernel
theorem dX8_numberHere_70 : decode cX8_numberHere 70 = .ok (.isub, 1) := by decide +kernel
theorem dX8_numberHere_71 : decode cX8_numberHere 71 = .ok (.istore_n 1, 1) := by decide +kernel
theorem dX8_numberHere_72 : decode cX8_numberHere 72 = .ok (.iinc 2 1, 3) := by decide +kernel
theorem dX8_numberHere_75 : decode cX8_numberHere 75 = .ok (.goto (-26), 3) := by decide +kernel
theorem dX8_numberHere_78 : decode cX8_numberHere 78 = .ok (.iload_n 1, 1) := by decide +kernel
theorem dX8_numberHere_79 : decode cX8_numberHere 79 = .ok (.ireturn, 1) := by decide +kernel
theorem dX8_reads_0 : decode cX8_reads 0 = .ok (.aload_n 0, 1) := by decide +kernel
theorem dX8_reads_1 : decode cX8_reads 1 = .ok (.invokevirtual 111, 3) := by decide +kernel
theorem dX8_reads_4 : decode cX8_reads 4 = .ok (.istore 4, 2) := by decide +kernel
theorem dX8_reads_6 : decode cX8_reads 6 = .ok (.iload 4, 2) := by decide +kernel
theorem dX8_reads_8 : decode cX8_reads 8 = .ok (.i2l, 1) := by decide +kernel
theorem dX8_reads_9 : decode cX8_reads 9 = .ok (.iload_n 2, 1) := by decide +kernel
theorem dX8_reads_10 : decode cX8_reads 10 = .ok (.i2l, 1) := by decide +kernel
theorem dX8_reads_11 : decode cX8_reads 11 = .ok (.iload_n 3, 1) := by decide +kernel
theorem dX8_reads_12 : decode cX8_reads 12 = .ok (.i2l, 1) := by decide +kernel
theorem dX8_reads_13 : decode cX8_reads 13 = .ok (.invokestatic 70, 3) := by decide +kernel
theorem dX8_reads_16 : decode cX8_reads 16 = .ok (.ifCond .ne 5, 3) := by decide +kernel
theorem dX8_reads_19 : decode cX8_reads 19 = .ok (.iconst 0, 1) := by decide +kernel
theorem dX8_reads_20 : decode cX8_reads 20 = .ok (.ireturn, 1) := by decide +kernel
theorem dX8_reads_21 : decode cX8_reads 21 = .ok (.aload_n 0, 1) := by decide +kernel
theorem dX8_reads_22 : decode cX8_reads 22 = .ok (.getfield 20, 3) := by decide +kernel
theorem dX8_reads_25 : decode cX8_reads 25 = .ok (.iconst 5, 1) := by decide +kernel
theorem dX8_reads_26 : decode cX8_reads 26 = .ok (.aload_n 0, 1) := by decide +kernel
theorem dX8_reads_27 : decode cX8_reads 27 = .ok (.getfield 114, 3) := by decide +kernel
theorem dX8_reads_30 : decode cX8_reads 30 = .ok (.imul, 1) := by decide +kernel
theorem dX8_reads_31 : decode cX8_reads 31 = .ok (.iconst 1, 1) := by decide +kernel
theorem dX8_reads_32 : decode cX8_reads 32 = .ok (.iadd, 1) := by decide +kernel
theorem dX8_reads_33 : decode cX8_reads 33 = .ok (.iload_n 1, 1) := by decide +kernel
theorem dX8_reads_34 : decode cX8_reads 34 = .ok (.iadd, 1) := by decide +kernel
theorem dX8_reads_35 : decode cX8_reads 35 = .ok (.iload 4, 2) := by decide +kernel
theorem dX8_reads_37 : decode cX8_reads 37 = .ok (.iastore, 1) := by decide +kernel
theorem dX8_reads_38 : decode cX8_reads 38 = .ok (.aload_n 0, 1) := by decide +kernel
theorem dX8_reads_39 : decode cX8_reads 39 = .ok (.invokevirtual 117, 3) := by decide +kernel
theorem dX8_reads_42 : decode cX8_reads 42 = .ok (.iconst 1, 1) := by decide +kernel
theorem dX8_reads_43 : decode cX8_reads 43 = .ok (.ireturn, 1) := by decide +kernel
theorem dX8_readsGuest_0 : decode cX8_readsGuest 0 = .ok (.aload_n 0, 1) := by decide +kernel
theorem dX8_readsGuest_1 : decode cX8_readsGuest 1 = .ok (.iconst 0, 1) := by decide +kernel
theorem dX8_readsGuest_2 : decode cX8_readsGuest 2 = .ok (.iconst 0, 1) := by decide +kernel
theorem dX8_readsGuest_3 : decode cX8_readsGuest 3 = .ok (.aload_n 0, 1) := by decide +kernel
theorem dX8_readsGuest_4 : decode cX8_readsGuest 4 = .ok (.getfield 120, 3) := by decide +kernel
theorem dX8_readsGuest_7 : decode cX8_readsGuest 7 = .ok (.iconst 1, 1) := by decide +kernel
theorem dX8_readsGuest_8 : decode cX8_readsGuest 8 = .ok (.isub, 1) := by decide +kernel
theorem dX8_readsGuest_9 : decode cX8_readsGuest 9 = .ok (.invokevirtual 123, 3) := by decide +kernel
theorem dX8_readsGuest_12 : decode cX8_readsGuest 12 = .ok (.ifCond .eq 38, 3) := by decide +kernel
theorem dX8_readsGuest_15 : decode cX8_readsGuest 15 = .ok (.aload_n 0, 1) := by decide +kernel
theorem dX8_readsGuest_16 : decode cX8_readsGuest 16 = .ok (.iconst 1, 1) := by decide +kernel
theorem dX8_readsGuest_17 : decode cX8_readsGuest 17 = .ok (.iconst 0, 1) := by decide +kernel
theorem dX8_readsGuest_18 : decode cX8_readsGuest 18 = .ok (.iconst 3, 1) := by decide +kernel
theorem dX8_readsGuest_19 : decode cX8_readsGuest 19 = .ok (.invokevirtual 123, 3) := by decide +kernel
theorem dX8_readsGuest_22 : decode cX8_readsGuest 22 = .ok (.ifCond .eq 28, 3) := by decide +kernel
theorem dX8_readsGuest_25 : decode cX8_readsGuest 25 = .ok (.aload_n 0, 1) := by decide +kernel
theorem dX8_readsGuest_26 : decode cX8_readsGuest 26 = .ok (.iconst 2, 1) := by decide +kernel
theorem dX8_readsGuest_27 : decode cX8_readsGuest 27 = .ok (.iconst 0, 1) := by decide +kernel
theorem dX8_readsGuest_28 : decode cX8_readsGuest 28 = .ok (.iconst 1, 1) := by decide +kernel
theorem dX8_readsGuest_29 : decode cX8_readsGuest 29 = .ok (.invokevirtual 123, 3) := by decide +kernel
theorem dX8_readsGuest_32 : decode cX8_readsGuest 32 = .ok (.ifCond .eq 18, 3) := by decide +kernel
theorem dX8_readsGuest_35 : decode cX8_readsGuest 35 = .ok (.aload_n 0, 1) := by decide +kernel
theorem dX8_readsGuest_36 : decode cX8_readsGuest 36 = .ok (.iconst 3, 1) := by decide +kernel
theorem dX8_readsGuest_37 : decode cX8_readsGuest 37 = .ok (.iconst 0, 1) := by decide +kernel
theorem dX8_readsGuest_38 : decode cX8_readsGuest 38 = .ok (.bipush 99, 2) := by decide +kernel
theorem dX8_readsGuest_40 : decode cX8_readsGuest 40 = .ok (.invokevirtual 123, 3) := by decide +kernel
theorem dX8_readsGuest_43 : decode cX8_readsGuest 43 = .ok (.ifCond .eq 7, 3) := by decide +kernel
theorem dX8_readsGuest_46 : decode cX8_readsGuest 46 = .ok (.iconst 1, 1) := by decide +kernel
theorem dX8_readsGuest_47 : decode cX8_readsGuest 47 = .ok (.goto 4, 3) := by decide +kernel
theorem dX8_readsGuest_50 : decode cX8_readsGuest 50 = .ok (.iconst 0, 1) := by decide +kernel
theorem dX8_readsGuest_51 : decode cX8_readsGuest 51 = .ok (.ireturn, 1) := by decide +kernel
theorem dX8_readsRest_0 : decode cX8_readsRest 0 = .ok (.aload_n 0, 1) := by decide +kernel
theorem dX8_readsRest_1 : decode cX8_readsRest 1 = .ok (.invokevirtual 111, 3) := by decide +kernel
theorem dX8_readsRest_4 : decode cX8_readsRest 4 = .ok (.istore_n 2, 1) := by decide +kernel
theorem dX8_readsRest_5 : decode cX8_readsRest 5 = .ok (.iload_n 2, 1) := by decide +kernel
theorem dX8_readsRest_6 : decode cX8_readsRest 6 = .ok (.i2l, 1) := by decide +kernel
theorem dX8_readsRest_7 : decode cX8_readsRest 7 = .ok (.lconst 0, 1) := by decide +kernel
theorem dX8_readsRest_8 : decode cX8_readsRest 8 = .ok (.aload_n 0, 1) := by decide +kernel
theorem dX8_readsRest_9 : decode cX8_readsRest 9 = .ok (.getfield 120, 3) := by decide +kernel
theorem dX8_readsRest_12 : decode cX8_readsRest 12 = .ok (.iconst 1, 1) := by decide +kernel
theorem dX8_readsRest_13 : decode cX8_readsRest 13 = .ok (.isub, 1) := by decide +kernel
theorem dX8_readsRest_14 : decode cX8_readsRest 14 = .ok (.i2l, 1) := by decide +kernel
theorem dX8_readsRest_15 : decode cX8_readsRest 15 = .ok (.invokestatic 70, 3) := by decide +kernel
theorem dX8_readsRest_18 : decode cX8_readsRest 18 = .ok (.istore_n 3, 1) := by decide +kernel
theorem dX8_readsRest_19 : decode cX8_readsRest 19 = .ok (.iload_n 1, 1) := by decide +kernel
theorem dX8_readsRest_20 : decode cX8_readsRest 20 = .ok (.tableswitch 123 0 7 #[48, 57, 89, 123, 123, 123, 123, 121], 48) := by decide +kernel
theorem dX8_readsRest_68 : decode cX8_readsRest 68 = .ok (.aload_n 0, 1) := by decide +kernel
theorem dX8_readsRest_69 : decode cX8_readsRest 69 = .ok (.iconst 0, 1) := by decide +kernel
theorem dX8_readsRest_70 : decode cX8_readsRest 70 = .ok (.iconst 3, 1) := by decide +kernel
theorem dX8_readsRest_71 : decode cX8_readsRest 71 = .ok (.bipush 12, 2) := by decide +kernel
theorem dX8_readsRest_73 : decode cX8_readsRest 73 = .ok (.invokevirtual 123, 3) := by decide +kernel
theorem dX8_readsRest_76 : decode cX8_readsRest 76 = .ok (.ireturn, 1) := by decide +kernel
theorem dX8_readsRest_77 : decode cX8_readsRest 77 = .ok (.iload_n 3, 1) := by decide +kernel
theorem dX8_readsRest_78 : decode cX8_readsRest 78 = .ok (.ifCond .eq 29, 3) := by decide +kernel
theorem dX8_readsRest_81 : decode cX8_readsRest 81 = .ok (.aload_n 0, 1) := by decide +kernel
theorem dX8_readsRest_82 : decode cX8_readsRest 82 = .ok (.getfield 127, 3) := by decide +kernel
theorem dX8_readsRest_85 : decode cX8_readsRest 85 = .ok (.iload_n 2, 1) := by decide +kernel
theorem dX8_readsRest_86 : decode cX8_readsRest 86 = .ok (.invokestatic 130, 3) := by decide +kernel
theorem dX8_readsRest_89 : decode cX8_readsRest 89 = .ok (.ifCond .ne 18, 3) := by decide +kernel
theorem dX8_readsRest_92 : decode cX8_readsRest 92 = .ok (.aload_n 0, 1) := by decide +kernel
theorem dX8_readsRest_93 : decode cX8_readsRest 93 = .ok (.iconst 0, 1) := by decide +kernel
theorem dX8_readsRest_94 : decode cX8_readsRest 94 = .ok (.iconst 0, 1) := by decide +kernel
theorem dX8_readsRest_95 : decode cX8_readsRest 95 = .ok (.bipush 11, 2) := by decide +kernel
theorem dX8_readsRest_97 : decode cX8_readsRest 97 = .ok (.invokevirtual 123, 3) := by decide +kernel
theorem dX8_readsRest_100 : decode cX8_readsRest 100 = .ok (.ifCond .eq 7, 3) := by decide +kernel
theorem dX8_readsRest_103 : decode cX8_readsRest 103 = .ok (.iconst 1, 1) := by decide +kernel
theorem dX8_readsRest_104 : decode cX8_readsRest 104 = .ok (.goto 4, 3) := by decide +kernel
theorem dX8_readsRest_107 : decode cX8_readsRest 107 = .ok (.iconst 0, 1) := by decide +kernel
theorem dX8_readsRest_108 : decode cX8_readsRest 108 = .ok (.ireturn, 1) := by decide +kernel
theorem dX8_readsRest_109 : decode cX8_readsRest 109 = .ok (.iload_n 3, 1) := by decide +kernel
theorem dX8_readsRest_110 : decode cX8_readsRest 110 = .ok (.ifCond .eq 29, 3) := by decide +kernel
theorem dX8_readsRest_113 : decode cX8_readsRest 113 = .ok (.aload_n 0, 1) := by decide +kernel
theorem dX8_readsRest_114 : decode cX8_readsRest 114 = .ok (.getfield 127, 3) := by decide +kernel
theorem dX8_readsRest_117 : decode cX8_readsRest 117 = .ok (.iload_n 2, 1) := by decide +kernel
theorem dX8_readsRest_118 : decode cX8_readsRest 118 = .ok (.invokestatic 130, 3) := by decide +kernel
theorem dX8_readsRest_121 : decode cX8_readsRest 121 = .ok (.ifCond .eq 18, 3) := by decide +kernel
theorem dX8_readsRest_124 : decode cX8_readsRest 124 = .ok (.aload_n 0, 1) := by decide +kernel
theorem dX8_readsRest_125 : decode cX8_readsRest 125 = .ok (.iconst 0, 1) := by decide +kernel
theorem dX8_readsRest_126 : decode cX8_readsRest 126 = .ok (.iconst 0, 1) := by decide +kernel
theorem dX8_readsRest_127 : decode cX8_readsRest 127 = .ok (.bipush 11, 2) := by decide +kernel
theorem dX8_readsRest_129 : decode cX8_readsRest 129 = .ok (.invokevirtual 123, 3) := by decide +kernel
theorem dX8_readsRest_132 : decode cX8_readsRest 132 = .ok (.ifCond .eq 7, 3) := by decide +kernel
theorem dX8_readsRest_135 : decode cX8_readsRest 135 = .ok (.iconst 1, 1) := by decide +kernel
theorem dX8_readsRest_136 : decode cX8_readsRest 136 = .ok (.goto 4, 3) := by decide +kernel
theorem dX8_readsRest_139 : decode cX8_readsRest 139 = .ok (.iconst 0, 1) := by decide +kernel
theorem dX8_readsRest_140 : decode cX8_readsRest 140 = .ok (.ireturn, 1) := by decide +kernel
theorem dX8_readsRest_141 : decode cX8_readsRest 141 = .ok (.iconst 1, 1) := by decide +kernel
theorem dX8_readsRest_142 : decode cX8_readsRest 142 = .ok (.ireturn, 1) := by decide +kernel
theorem dX8_readsRest_143 : decode cX8_readsRest 143 = .ok (.aload_n 0, 1) := by decide +kernel
theorem dX8_readsRest_144 : decode cX8_readsRest 144 = .ok (.invokevirtual 133, 3) := by decide +kernel
theorem dX8_readsRest_147 : decode cX8_readsRest 147 = .ok (.ireturn, 1) := by decide +kernel
theorem dX8_isGuestWord_0 : decode cX8_isGuestWord 0 = .ok (.iload_n 0, 1) := by decide +kernel
theorem dX8_isGuestWord_1 : decode cX8_isGuestWord 1 = .ok (.i2l, 1) := by decide +kernel
theorem dX8_isGuestWord_2 : decode cX8_isGuestWord 2 = .ok (.ldc2_w 137, 3) := by decide +kernel
theorem dX8_isGuestWord_5 : decode cX8_isGuestWord 5 = .ok (.ldc2_w 139, 3) := by decide +kernel
theorem dX8_isGuestWord_8 : decode cX8_isGuestWord 8 = .ok (.invokestatic 70, 3) := by decide +kernel
theorem dX8_isGuestWord_11 : decode cX8_isGuestWord 11 = .ok (.ireturn, 1) := by decide +kernel
theorem dX8_readsLine_0 : decode cX8_readsLine 0 = .ok (.aload_n 0, 1) := by decide +kernel
theorem dX8_readsLine_1 : decode cX8_readsLine 1 = .ok (.invokevirtual 141, 3) := by decide +kernel
theorem dX8_readsLine_4 : decode cX8_readsLine 4 = .ok (.istore_n 1, 1) := by decide +kernel
theorem dX8_readsLine_5 : decode cX8_readsLine 5 = .ok (.iload_n 1, 1) := by decide +kernel
theorem dX8_readsLine_6 : decode cX8_readsLine 6 = .ok (.iconst (-1), 1) := by decide +kernel
theorem dX8_readsLine_7 : decode cX8_readsLine 7 = .ok (.if_icmp .eq 19, 3) := by decide +kernel
theorem dX8_readsLine_10 : decode cX8_readsLine 10 = .ok (.iload_n 1, 1) := by decide +kernel
theorem dX8_readsLine_11 : decode cX8_readsLine 11 = .ok (.invokestatic 144, 3) := by decide +kernel
theorem dX8_readsLine_14 : decode cX8_readsLine 14 = .ok (.ifCond .eq 14, 3) := by decide +kernel
theorem dX8_readsLine_17 : decode cX8_readsLine 17 = .ok (.aload_n 0, 1) := by decide +kernel
theorem dX8_readsLine_18 : decode cX8_readsLine 18 = .ok (.getfield 148, 3) := by decide +kernel
theorem dX8_readsLine_21 : decode cX8_readsLine 21 = .ok (.bipush 6, 2) := by decide +kernel
theorem dX8_readsLine_23 : decode cX8_readsLine 23 = .ok (.if_icmp .ne 5, 3) := by decide +kernel
theorem dX8_readsLine_26 : decode cX8_readsLine 26 = .ok (.iconst 0, 1) := by decide +kernel
theorem dX8_readsLine_27 : decode cX8_readsLine 27 = .ok (.ireturn, 1) := by decide +kernel
theorem dX8_readsLine_28 : decode cX8_readsLine 28 = .ok (.aload_n 0, 1) := by decide +kernel
theorem dX8_readsLine_29 : decode cX8_readsLine 29 = .ok (.invokevirtual 117, 3) := by decide +kernel
theorem dX8_readsLine_32 : decode cX8_readsLine 32 = .ok (.aload_n 0, 1) := by decide +kernel
theorem dX8_readsLine_33 : decode cX8_readsLine 33 = .ok (.getfield 20, 3) := by decide +kernel
theorem dX8_readsLine_36 : decode cX8_readsLine 36 = .ok (.iconst 5, 1) := by decide +kernel
theorem dX8_readsLine_37 : decode cX8_readsLine 37 = .ok (.aload_n 0, 1) := by decide +kernel
theorem dX8_readsLine_38 : decode cX8_readsLine 38 = .ok (.getfield 114, 3) := by decide +kernel
theorem dX8_readsLine_41 : decode cX8_readsLine 41 = .ok (.imul, 1) := by decide +kernel
theorem dX8_readsLine_42 : decode cX8_readsLine 42 = .ok (.iload_n 1, 1) := by decide +kernel
theorem dX8_readsLine_43 : decode cX8_readsLine 43 = .ok (.iastore, 1) := by decide +kernel
theorem dX8_readsLine_44 : decode cX8_readsLine 44 = .ok (.aload_n 0, 1) := by decide +kernel
theorem dX8_readsLine_45 : decode cX8_readsLine 45 = .ok (.iload_n 1, 1) := by decide +kernel
theorem dX8_readsLine_46 : decode cX8_readsLine 46 = .ok (.invokevirtual 151, 3) := by decide +kernel
theorem dX8_readsLine_49 : decode cX8_readsLine 49 = .ok (.ifCond .ne 5, 3) := by decide +kernel
theorem dX8_readsLine_52 : decode cX8_readsLine 52 = .ok (.iconst 0, 1) := by decide +kernel
theorem dX8_readsLine_53 : decode cX8_readsLine 53 = .ok (.ireturn, 1) := by decide +kernel
theorem dX8_readsLine_54 : decode cX8_readsLine 54 = .ok (.aload_n 0, 1) := by decide +kernel
theorem dX8_readsLine_55 : decode cX8_readsLine 55 = .ok (.getfield 20, 3) := by decide +kernel
theorem dX8_readsLine_58 : decode cX8_readsLine 58 = .ok (.iconst 5, 1) := by decide +kernel
theorem dX8_readsLine_59 : decode cX8_readsLine 59 = .ok (.aload_n 0, 1) := by decide +kernel
theorem dX8_readsLine_60 : decode cX8_readsLine 60 = .ok (.getfield 114, 3) := by decide +kernel
theorem dX8_readsLine_63 : decode cX8_readsLine 63 = .ok (.imul, 1) := by decide +kernel
theorem dX8_readsLine_64 : decode cX8_readsLine 64 = .ok (.iconst 1, 1) := by decide +kernel
theorem dX8_readsLine_65 : decode cX8_readsLine 65 = .ok (.iadd, 1) := by decide +kernel
theorem dX8_readsLine_66 : decode cX8_readsLine 66 = .ok (.iaload, 1) := by decide +kernel
theorem dX8_readsLine_67 : decode cX8_readsLine 67 = .ok (.istore_n 2, 1) := by decide +kernel
theorem dX8_readsLine_68 : decode cX8_readsLine 68 = .ok (.aload_n 0, 1) := by decide +kernel
theorem dX8_readsLine_69 : decode cX8_readsLine 69 = .ok (.iload_n 1, 1) := by decide +kernel
theorem dX8_readsLine_70 : decode cX8_readsLine 70 = .ok (.ifCond .ne 7, 3) := by decide +kernel
theorem dX8_readsLine_73 : decode cX8_readsLine 73 = .ok (.iload_n 2, 1) := by decide +kernel
theorem dX8_readsLine_74 : decode cX8_readsLine 74 = .ok (.goto 7, 3) := by decide +kernel
theorem dX8_readsLine_77 : decode cX8_readsLine 77 = .ok (.aload_n 0, 1) := by decide +kernel
theorem dX8_readsLine_78 : decode cX8_readsLine 78 = .ok (.getfield 120, 3) := by decide +kernel
theorem dX8_readsLine_81 : decode cX8_readsLine 81 = .ok (.putfield 120, 3) := by decide +kernel
theorem dX8_readsLine_84 : decode cX8_readsLine 84 = .ok (.aload_n 0, 1) := by decide +kernel
theorem dX8_readsLine_85 : decode cX8_readsLine 85 = .ok (.iload_n 1, 1) := by decide +kernel
theorem dX8_readsLine_86 : decode cX8_readsLine 86 = .ok (.ifCond .ne 7, 3) := by decide +kernel
theorem dX8_readsLine_89 : decode cX8_readsLine 89 = .ok (.iconst 0, 1) := by decide +kernel
theorem dX8_readsLine_90 : decode cX8_readsLine 90 = .ok (.goto 28, 3) := by decide +kernel
theorem dX8_readsLine_93 : decode cX8_readsLine 93 = .ok (.iload_n 1, 1) := by decide +kernel
theorem dX8_readsLine_94 : decode cX8_readsLine 94 = .ok (.iconst 1, 1) := by decide +kernel
theorem dX8_readsLine_95 : decode cX8_readsLine 95 = .ok (.if_icmp .eq 8, 3) := by decide +kernel
theorem dX8_readsLine_98 : decode cX8_readsLine 98 = .ok (.iload_n 1, 1) := by decide +kernel
theorem dX8_readsLine_99 : decode cX8_readsLine 99 = .ok (.iconst 2, 1) := by decide +kernel
theorem dX8_readsLine_100 : decode cX8_readsLine 100 = .ok (.if_icmp .ne 14, 3) := by decide +kernel
theorem dX8_readsLine_103 : decode cX8_readsLine 103 = .ok (.aload_n 0, 1) := by decide +kernel
theorem dX8_readsLine_104 : decode cX8_readsLine 104 = .ok (.getfield 127, 3) := by decide +kernel
theorem dX8_readsLine_107 : decode cX8_readsLine 107 = .ok (.iconst 1, 1) := by decide +kernel
theorem dX8_readsLine_108 : decode cX8_readsLine 108 = .ok (.iload_n 2, 1) := by decide +kernel
theorem dX8_readsLine_109 : decode cX8_readsLine 109 = .ok (.ishl, 1) := by decide +kernel
theorem dX8_readsLine_110 : decode cX8_readsLine 110 = .ok (.ixor, 1) := by decide +kernel
theorem dX8_readsLine_111 : decode cX8_readsLine 111 = .ok (.goto 7, 3) := by decide +kernel
theorem dX8_readsLine_114 : decode cX8_readsLine 114 = .ok (.aload_n 0, 1) := by decide +kernel
theorem dX8_readsLine_115 : decode cX8_readsLine 115 = .ok (.getfield 127, 3) := by decide +kernel
theorem dX8_readsLine_118 : decode cX8_readsLine 118 = .ok (.putfield 127, 3) := by decide +kernel
theorem dX8_readsLine_121 : decode cX8_readsLine 121 = .ok (.aload_n 0, 1) := by decide +kernel
theorem dX8_readsLine_122 : decode cX8_readsLine 122 = .ok (.iload_n 1, 1) := by decide +kernel
theorem dX8_readsLine_123 : decode cX8_readsLine 123 = .ok (.ifCond .eq 9, 3) := by decide +kernel
theorem dX8_readsLine_126 : decode cX8_readsLine 126 = .ok (.iload_n 1, 1) := by decide +kernel
theorem dX8_readsLine_127 : decode cX8_readsLine 127 = .ok (.bipush 7, 2) := by decide +kernel
theorem dX8_readsLine_129 : decode cX8_readsLine 129 = .ok (.if_icmp .ne 7, 3) := by decide +kernel
theorem dX8_readsLine_132 : decode cX8_readsLine 132 = .ok (.iconst 0, 1) := by decide +kernel
theorem dX8_readsLine_133 : decode cX8_readsLine 133 = .ok (.goto 23, 3) := by decide +kernel
theorem dX8_readsLine_136 : decode cX8_readsLine 136 = .ok (.iload_n 1, 1) := by decide +kernel
theorem dX8_readsLine_137 : decode cX8_readsLine 137 = .ok (.invokestatic 144, 3) := by decide +kernel
theorem dX8_readsLine_140 : decode cX8_readsLine 140 = .ok (.ifCond .eq 12, 3) := by decide +kernel
theorem dX8_readsLine_143 : decode cX8_readsLine 143 = .ok (.aload_n 0, 1) := by decide +kernel
theorem dX8_readsLine_144 : decode cX8_readsLine 144 = .ok (.getfield 148, 3) := by decide +kernel
theorem dX8_readsLine_147 : decode cX8_readsLine 147 = .ok (.iconst 1, 1) := by decide +kernel
theorem dX8_readsLine_148 : decode cX8_readsLine 148 = .ok (.iadd, 1) := by decide +kernel
theorem dX8_readsLine_149 : decode cX8_readsLine 149 = .ok (.goto 7, 3) := by decide +kernel
theorem dX8_readsLine_152 : decode cX8_readsLine 152 = .ok (.aload_n 0, 1) := by decide +kernel
theorem dX8_readsLine_153 : decode cX8_readsLine 153 = .ok (.getfield 148, 3) := by decide +kernel
theorem dX8_readsLine_156 : decode cX8_readsLine 156 = .ok (.putfield 148, 3) := by decide +kernel
theorem dX8_readsLine_159 : decode cX8_readsLine 159 = .ok (.aload_n 0, 1) := by decide +kernel
theorem dX8_readsLine_160 : decode cX8_readsLine 160 = .ok (.dup, 1) := by decide +kernel
theorem dX8_readsLine_161 : decode cX8_readsLine 161 = .ok (.getfield 114, 3) := by decide +kernel
theorem dX8_readsLine_164 : decode cX8_readsLine 164 = .ok (.iconst 1, 1) := by decide +kernel
theorem dX8_readsLine_165 : decode cX8_readsLine 165 = .ok (.iadd, 1) := by decide +kernel
theorem dX8_readsLine_166 : decode cX8_readsLine 166 = .ok (.putfield 114, 3) := by decide +kernel
theorem dX8_readsLine_169 : decode cX8_readsLine 169 = .ok (.iconst 1, 1) := by decide +kernel
theorem dX8_readsLine_170 : decode cX8_readsLine 170 = .ok (.ireturn, 1) := by decide +kernel
theorem dX8_fault_0 : decode cX8_fault 0 = .ok (.aload_n 0, 1) := by decide +kernel
theorem dX8_fault_1 : decode cX8_fault 1 = .ok (.iconst 0, 1) := by decide +kernel
theorem dX8_fault_2 : decode cX8_fault 2 = .ok (.putfield 84, 3) := by decide +kernel
theorem dX8_fault_5 : decode cX8_fault 5 = .ok (.aload_n 0, 1) := by decide +kernel
theorem dX8_fault_6 : decode cX8_fault 6 = .ok (.iconst 0, 1) := by decide +kernel
theorem dX8_fault_7 : decode cX8_fault 7 = .ok (.putfield 114, 3) := by decide +kernel
theorem dX8_fault_10 : decode cX8_fault 10 = .ok (.aload_n 0, 1) := by decide +kernel
theorem dX8_fault_11 : decode cX8_fault 11 = .ok (.aload_n 0, 1) := by decide +kernel
theorem dX8_fault_12 : decode cX8_fault 12 = .ok (.getfield 23, 3) := by decide +kernel
theorem dX8_fault_15 : decode cX8_fault 15 = .ok (.putfield 120, 3) := by decide +kernel
theorem dX8_fault_18 : decode cX8_fault 18 = .ok (.aload_n 0, 1) := by decide +kernel
theorem dX8_fault_19 : decode cX8_fault 19 = .ok (.aload_n 0, 1) := by decide +kernel
theorem dX8_fault_20 : decode cX8_fault 20 = .ok (.getfield 154, 3) := by decide +kernel
theorem dX8_fault_23 : decode cX8_fault 23 = .ok (.putfield 127, 3) := by decide +kernel
theorem dX8_fault_26 : decode cX8_fault 26 = .ok (.aload_n 0, 1) := by decide +kernel
theorem dX8_fault_27 : decode cX8_fault 27 = .ok (.aload_n 0, 1) := by decide +kernel
theorem dX8_fault_28 : decode cX8_fault 28 = .ok (.getfield 74, 3) := by decide +kernel
theorem dX8_fault_31 : decode cX8_fault 31 = .ok (.putfield 148, 3) := by decide +kernel
theorem dX8_fault_34 : decode cX8_fault 34 = .ok (.aload_n 0, 1) := by decide +kernel
theorem dX8_fault_35 : decode cX8_fault 35 = .ok (.invokevirtual 117, 3) := by decide +kernel
theorem dX8_fault_38 : decode cX8_fault 38 = .ok (.aload_n 0, 1) := by decide +kernel
theorem dX8_fault_39 : decode cX8_fault 39 = .ok (.invokevirtual 157, 3) := by decide +kernel
theorem dX8_fault_42 : decode cX8_fault 42 = .ok (.ifCond .ne 8, 3) := by decide +kernel
theorem dX8_fault_45 : decode cX8_fault 45 = .ok (.aload_n 0, 1) := by decide +kernel
theorem dX8_fault_46 : decode cX8_fault 46 = .ok (.getfield 87, 3) := by decide +kernel
theorem dX8_fault_49 : decode cX8_fault 49 = .ok (.ireturn, 1) := by decide +kernel
theorem dX8_fault_50 : decode cX8_fault 50 = .ok (.aload_n 0, 1) := by decide +kernel
theorem dX8_fault_51 : decode cX8_fault 51 = .ok (.getfield 87, 3) := by decide +kernel
theorem dX8_fault_54 : decode cX8_fault 54 = .ok (.aload_n 0, 1) := by decide +kernel
theorem dX8_fault_55 : decode cX8_fault 55 = .ok (.getfield 79, 3) := by decide +kernel
theorem dX8_fault_58 : decode cX8_fault 58 = .ok (.if_icmp .ge 70, 3) := by decide +kernel
theorem dX8_fault_61 : decode cX8_fault 61 = .ok (.aload_n 0, 1) := by decide +kernel
theorem dX8_fault_62 : decode cX8_fault 62 = .ok (.getfield 94, 3) := by decide +kernel
theorem dX8_fault_65 : decode cX8_fault 65 = .ok (.aload_n 0, 1) := by decide +kernel
theorem dX8_fault_66 : decode cX8_fault 66 = .ok (.getfield 87, 3) := by decide +kernel
theorem dX8_fault_69 : decode cX8_fault 69 = .ok (.isub, 1) := by decide +kernel
theorem dX8_fault_70 : decode cX8_fault 70 = .ok (.iconst 1, 1) := by decide +kernel
theorem dX8_fault_71 : decode cX8_fault 71 = .ok (.if_icmp .ne 30, 3) := by decide +kernel
theorem dX8_fault_74 : decode cX8_fault 74 = .ok (.aload_n 0, 1) := by decide +kernel
theorem dX8_fault_75 : decode cX8_fault 75 = .ok (.getfield 17, 3) := by decide +kernel
theorem dX8_fault_78 : decode cX8_fault 78 = .ok (.aload_n 0, 1) := by decide +kernel
theorem dX8_fault_79 : decode cX8_fault 79 = .ok (.getfield 87, 3) := by decide +kernel
theorem dX8_fault_82 : decode cX8_fault 82 = .ok (.iaload, 1) := by decide +kernel
theorem dX8_fault_83 : decode cX8_fault 83 = .ok (.bipush 59, 2) := by decide +kernel
theorem dX8_fault_85 : decode cX8_fault 85 = .ok (.if_icmp .ne 16, 3) := by decide +kernel
theorem dX8_fault_88 : decode cX8_fault 88 = .ok (.aload_n 0, 1) := by decide +kernel
theorem dX8_fault_89 : decode cX8_fault 89 = .ok (.getfield 114, 3) := by decide +kernel
theorem dX8_fault_92 : decode cX8_fault 92 = .ok (.bipush 12, 2) := by decide +kernel
theorem dX8_fault_94 : decode cX8_fault 94 = .ok (.if_icmp .ge 7, 3) := by decide +kernel
theorem dX8_fault_97 : decode cX8_fault 97 = .ok (.iconst 1, 1) := by decide +kernel
theorem dX8_fault_98 : decode cX8_fault 98 = .ok (.goto 4, 3) := by decide +kernel
theorem dX8_fault_101 : decode cX8_fault 101 = .ok (.iconst 0, 1) := by decide +kernel
theorem dX8_fault_102 : decode cX8_fault 102 = .ok (.istore_n 1, 1) := by decide +kernel
theorem dX8_fault_103 : decode cX8_fault 103 = .ok (.iload_n 1, 1) := by decide +kernel
theorem dX8_fault_104 : decode cX8_fault 104 = .ok (.ifCond .eq 12, 3) := by decide +kernel
theorem dX8_fault_107 : decode cX8_fault 107 = .ok (.aload_n 0, 1) := by decide +kernel
theorem dX8_fault_108 : decode cX8_fault 108 = .ok (.invokevirtual 117, 3) := by decide +kernel
theorem dX8_fault_111 : decode cX8_fault 111 = .ok (.aload_n 0, 1) := by decide +kernel
theorem dX8_fault_112 : decode cX8_fault 112 = .ok (.invokevirtual 157, 3) := by decide +kernel
theorem dX8_fault_115 : decode cX8_fault 115 = .ok (.istore_n 1, 1) := by decide +kernel
theorem dX8_fault_116 : decode cX8_fault 116 = .ok (.iload_n 1, 1) := by decide +kernel
theorem dX8_fault_117 : decode cX8_fault 117 = .ok (.ifCond .ne 8, 3) := by decide +kernel
theorem dX8_fault_120 : decode cX8_fault 120 = .ok (.aload_n 0, 1) := by decide +kernel
theorem dX8_fault_121 : decode cX8_fault 121 = .ok (.getfield 87, 3) := by decide +kernel
theorem dX8_fault_124 : decode cX8_fault 124 = .ok (.ireturn, 1) := by decide +kernel
theorem dX8_fault_125 : decode cX8_fault 125 = .ok (.goto (-75), 3) := by decide +kernel
theorem dX8_fault_128 : decode cX8_fault 128 = .ok (.iconst (-1), 1) := by decide +kernel
theorem dX8_fault_129 : decode cX8_fault 129 = .ok (.ireturn, 1) := by decide +kernel
theorem dX8_tell_0 : decode cX8_tell 0 = .ok (.aload_n 0, 1) := by decide +kernel
theorem dX8_tell_1 : decode cX8_tell 1 = .ok (.getfield 20, 3) := by decide +kernel
theorem dX8_tell_4 : decode cX8_tell 4 = .ok (.iload_n 1, 1) := by decide +kernel
theorem dX8_tell_5 : decode cX8_tell 5 = .ok (.iconst 1, 1) := by decide +kernel
theorem dX8_tell_6 : decode cX8_tell 6 = .ok (.iadd, 1) := by decide +kernel
theorem dX8_tell_7 : decode cX8_tell 7 = .ok (.iaload, 1) := by decide +kernel
theorem dX8_tell_8 : decode cX8_tell 8 = .ok (.istore_n 2, 1) := by decide +kernel
theorem dX8_tell_9 : decode cX8_tell 9 = .ok (.aload_n 0, 1) := by decide +kernel
theorem dX8_tell_10 : decode cX8_tell 10 = .ok (.getfield 20, 3) := by decide +kernel
theorem dX8_tell_13 : decode cX8_tell 13 = .ok (.iload_n 1, 1) := by decide +kernel
theorem dX8_tell_14 : decode cX8_tell 14 = .ok (.iaload, 1) := by decide +kernel
theorem dX8_tell_15 : decode cX8_tell 15 = .ok (.tableswitch 80 0 7 #[45, 61, 61, 80, 80, 80, 80, 74], 45) := by decide +kernel
theorem dX8_tell_60 : decode cX8_tell 60 = .ok (.aload_n 0, 1) := by decide +kernel
theorem dX8_tell_61 : decode cX8_tell 61 = .ok (.iload_n 2, 1) := by decide +kernel
theorem dX8_tell_62 : decode cX8_tell 62 = .ok (.putfield 23, 3) := by decide +kernel
theorem dX8_tell_65 : decode cX8_tell 65 = .ok (.aload_n 0, 1) := by decide +kernel
theorem dX8_tell_66 : decode cX8_tell 66 = .ok (.iconst 0, 1) := by decide +kernel
theorem dX8_tell_67 : decode cX8_tell 67 = .ok (.putfield 154, 3) := by decide +kernel
theorem dX8_tell_70 : decode cX8_tell 70 = .ok (.aload_n 0, 1) := by decide +kernel
theorem dX8_tell_71 : decode cX8_tell 71 = .ok (.iconst 0, 1) := by decide +kernel
theorem dX8_tell_72 : decode cX8_tell 72 = .ok (.putfield 74, 3) := by decide +kernel
theorem dX8_tell_75 : decode cX8_tell 75 = .ok (.return_, 1) := by decide +kernel
theorem dX8_tell_76 : decode cX8_tell 76 = .ok (.aload_n 0, 1) := by decide +kernel
theorem dX8_tell_77 : decode cX8_tell 77 = .ok (.dup, 1) := by decide +kernel
theorem dX8_tell_78 : decode cX8_tell 78 = .ok (.getfield 154, 3) := by decide +kernel
theorem dX8_tell_81 : decode cX8_tell 81 = .ok (.iconst 1, 1) := by decide +kernel
theorem dX8_tell_82 : decode cX8_tell 82 = .ok (.iload_n 2, 1) := by decide +kernel
theorem dX8_tell_83 : decode cX8_tell 83 = .ok (.ishl, 1) := by decide +kernel
theorem dX8_tell_84 : decode cX8_tell 84 = .ok (.ixor, 1) := by decide +kernel
theorem dX8_tell_85 : decode cX8_tell 85 = .ok (.putfield 154, 3) := by decide +kernel
theorem dX8_tell_88 : decode cX8_tell 88 = .ok (.return_, 1) := by decide +kernel
theorem dX8_tell_89 : decode cX8_tell 89 = .ok (.aload_n 0, 1) := by decide +kernel
theorem dX8_tell_90 : decode cX8_tell 90 = .ok (.iconst 0, 1) := by decide +kernel
theorem dX8_tell_91 : decode cX8_tell 91 = .ok (.putfield 74, 3) := by decide +kernel
theorem dX8_tell_94 : decode cX8_tell 94 = .ok (.return_, 1) := by decide +kernel
theorem dX8_tell_95 : decode cX8_tell 95 = .ok (.aload_n 0, 1) := by decide +kernel
theorem dX8_tell_96 : decode cX8_tell 96 = .ok (.getfield 27, 3) := by decide +kernel
theorem dX8_tell_99 : decode cX8_tell 99 = .ok (.aload_n 0, 1) := by decide +kernel
theorem dX8_tell_100 : decode cX8_tell 100 = .ok (.getfield 74, 3) := by decide +kernel
theorem dX8_tell_103 : decode cX8_tell 103 = .ok (.aload_n 0, 1) := by decide +kernel
theorem dX8_tell_104 : decode cX8_tell 104 = .ok (.getfield 20, 3) := by decide +kernel
theorem dX8_tell_107 : decode cX8_tell 107 = .ok (.iload_n 1, 1) := by decide +kernel
theorem dX8_tell_108 : decode cX8_tell 108 = .ok (.iaload, 1) := by decide +kernel
theorem dX8_tell_109 : decode cX8_tell 109 = .ok (.iconst 3, 1) := by decide +kernel
theorem dX8_tell_110 : decode cX8_tell 110 = .ok (.isub, 1) := by decide +kernel
theorem dX8_tell_111 : decode cX8_tell 111 = .ok (.iastore, 1) := by decide +kernel
theorem dX8_tell_112 : decode cX8_tell 112 = .ok (.aload_n 0, 1) := by decide +kernel
theorem dX8_tell_113 : decode cX8_tell 113 = .ok (.getfield 30, 3) := by decide +kernel
