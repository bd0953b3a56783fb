theorem dX8_play_54 : decode cX8_play 54 = .ok (.getfield 7, 3) := by decide +kernel
theorem dX8_play_57 : decode cX8_play 57 = .ok (.iconst 2, 1) := by decide +kernel
theorem dX8_play_58 : decode cX8_play 58 = .ok (.iconst 0, 1) := by decide +kernel
theorem dX8_play_59 : decode cX8_play 59 = .ok (.iastore, 1) := by decide +kernel
theorem dX8_play_60 : decode cX8_play 60 = .ok (.aload_n 0, 1) := by decide +kernel
theorem dX8_play_61 : decode cX8_play 61 = .ok (.getfield 7, 3) := by decide +kernel
theorem dX8_play_64 : decode cX8_play 64 = .ok (.iconst 0, 1) := by decide +kernel
theorem dX8_play_65 : decode cX8_play 65 = .ok (.iaload, 1) := by decide +kernel
theorem dX8_play_66 : decode cX8_play 66 = .ok (.ireturn, 1) := by decide +kernel
theorem dX8_copy_0 : decode cX8_copy 0 = .ok (.iconst 0, 1) := by decide +kernel
theorem dX8_copy_1 : decode cX8_copy 1 = .ok (.istore_n 3, 1) := by decide +kernel
theorem dX8_copy_2 : decode cX8_copy 2 = .ok (.iload_n 3, 1) := by decide +kernel
theorem dX8_copy_3 : decode cX8_copy 3 = .ok (.bipush 27, 2) := by decide +kernel
theorem dX8_copy_5 : decode cX8_copy 5 = .ok (.if_icmp .ge 31, 3) := by decide +kernel
theorem dX8_copy_8 : decode cX8_copy 8 = .ok (.aload_n 0, 1) := by decide +kernel
theorem dX8_copy_9 : decode cX8_copy 9 = .ok (.getfield 7, 3) := by decide +kernel
theorem dX8_copy_12 : decode cX8_copy 12 = .ok (.bipush 27, 2) := by decide +kernel
theorem dX8_copy_14 : decode cX8_copy 14 = .ok (.iload_n 2, 1) := by decide +kernel
theorem dX8_copy_15 : decode cX8_copy 15 = .ok (.imul, 1) := by decide +kernel
theorem dX8_copy_16 : decode cX8_copy 16 = .ok (.iload_n 3, 1) := by decide +kernel
theorem dX8_copy_17 : decode cX8_copy 17 = .ok (.iadd, 1) := by decide +kernel
theorem dX8_copy_18 : decode cX8_copy 18 = .ok (.aload_n 0, 1) := by decide +kernel
theorem dX8_copy_19 : decode cX8_copy 19 = .ok (.getfield 7, 3) := by decide +kernel
theorem dX8_copy_22 : decode cX8_copy 22 = .ok (.bipush 27, 2) := by decide +kernel
theorem dX8_copy_24 : decode cX8_copy 24 = .ok (.iload_n 1, 1) := by decide +kernel
theorem dX8_copy_25 : decode cX8_copy 25 = .ok (.imul, 1) := by decide +kernel
theorem dX8_copy_26 : decode cX8_copy 26 = .ok (.iload_n 3, 1) := by decide +kernel
theorem dX8_copy_27 : decode cX8_copy 27 = .ok (.iadd, 1) := by decide +kernel
theorem dX8_copy_28 : decode cX8_copy 28 = .ok (.iaload, 1) := by decide +kernel
theorem dX8_copy_29 : decode cX8_copy 29 = .ok (.iastore, 1) := by decide +kernel
theorem dX8_copy_30 : decode cX8_copy 30 = .ok (.iinc 3 1, 3) := by decide +kernel
theorem dX8_copy_33 : decode cX8_copy 33 = .ok (.goto (-31), 3) := by decide +kernel
theorem dX8_copy_36 : decode cX8_copy 36 = .ok (.return_, 1) := by decide +kernel
theorem dX8_keep_0 : decode cX8_keep 0 = .ok (.iload_n 1, 1) := by decide +kernel
theorem dX8_keep_1 : decode cX8_keep 1 = .ok (.i2l, 1) := by decide +kernel
theorem dX8_keep_2 : decode cX8_keep 2 = .ok (.lconst 0, 1) := by decide +kernel
theorem dX8_keep_3 : decode cX8_keep 3 = .ok (.lconst 1, 1) := by decide +kernel
theorem dX8_keep_4 : decode cX8_keep 4 = .ok (.invokestatic 70, 3) := by decide +kernel
theorem dX8_keep_7 : decode cX8_keep 7 = .ok (.ifCond .ne 6, 3) := by decide +kernel
theorem dX8_keep_10 : decode cX8_keep 10 = .ok (.bipush (-2), 2) := by decide +kernel
theorem dX8_keep_12 : decode cX8_keep 12 = .ok (.ireturn, 1) := by decide +kernel
theorem dX8_keep_13 : decode cX8_keep 13 = .ok (.aload_n 0, 1) := by decide +kernel
theorem dX8_keep_14 : decode cX8_keep 14 = .ok (.iconst 0, 1) := by decide +kernel
theorem dX8_keep_15 : decode cX8_keep 15 = .ok (.iconst 1, 1) := by decide +kernel
theorem dX8_keep_16 : decode cX8_keep 16 = .ok (.iload_n 1, 1) := by decide +kernel
theorem dX8_keep_17 : decode cX8_keep 17 = .ok (.iadd, 1) := by decide +kernel
theorem dX8_keep_18 : decode cX8_keep 18 = .ok (.invokevirtual 222, 3) := by decide +kernel
theorem dX8_keep_21 : decode cX8_keep 21 = .ok (.aload_n 0, 1) := by decide +kernel
theorem dX8_keep_22 : decode cX8_keep 22 = .ok (.getfield 13, 3) := by decide +kernel
theorem dX8_keep_25 : decode cX8_keep 25 = .ok (.iload_n 1, 1) := by decide +kernel
theorem dX8_keep_26 : decode cX8_keep 26 = .ok (.iconst 1, 1) := by decide +kernel
theorem dX8_keep_27 : decode cX8_keep 27 = .ok (.bastore, 1) := by decide +kernel
theorem dX8_keep_28 : decode cX8_keep 28 = .ok (.aload_n 0, 1) := by decide +kernel
theorem dX8_keep_29 : decode cX8_keep 29 = .ok (.getfield 7, 3) := by decide +kernel
theorem dX8_keep_32 : decode cX8_keep 32 = .ok (.iconst 0, 1) := by decide +kernel
theorem dX8_keep_33 : decode cX8_keep 33 = .ok (.iaload, 1) := by decide +kernel
theorem dX8_keep_34 : decode cX8_keep 34 = .ok (.ireturn, 1) := by decide +kernel
theorem dX8_back_0 : decode cX8_back 0 = .ok (.iload_n 1, 1) := by decide +kernel
theorem dX8_back_1 : decode cX8_back 1 = .ok (.i2l, 1) := by decide +kernel
theorem dX8_back_2 : decode cX8_back 2 = .ok (.lconst 0, 1) := by decide +kernel
theorem dX8_back_3 : decode cX8_back 3 = .ok (.lconst 1, 1) := by decide +kernel
theorem dX8_back_4 : decode cX8_back 4 = .ok (.invokestatic 70, 3) := by decide +kernel
theorem dX8_back_7 : decode cX8_back 7 = .ok (.ifCond .ne 6, 3) := by decide +kernel
theorem dX8_back_10 : decode cX8_back 10 = .ok (.bipush (-2), 2) := by decide +kernel
theorem dX8_back_12 : decode cX8_back 12 = .ok (.ireturn, 1) := by decide +kernel
theorem dX8_back_13 : decode cX8_back 13 = .ok (.aload_n 0, 1) := by decide +kernel
theorem dX8_back_14 : decode cX8_back 14 = .ok (.getfield 13, 3) := by decide +kernel
theorem dX8_back_17 : decode cX8_back 17 = .ok (.iload_n 1, 1) := by decide +kernel
theorem dX8_back_18 : decode cX8_back 18 = .ok (.baload, 1) := by decide +kernel
theorem dX8_back_19 : decode cX8_back 19 = .ok (.ifCond .ne 6, 3) := by decide +kernel
theorem dX8_back_22 : decode cX8_back 22 = .ok (.bipush (-4), 2) := by decide +kernel
theorem dX8_back_24 : decode cX8_back 24 = .ok (.ireturn, 1) := by decide +kernel
theorem dX8_back_25 : decode cX8_back 25 = .ok (.aload_n 0, 1) := by decide +kernel
theorem dX8_back_26 : decode cX8_back 26 = .ok (.iconst 1, 1) := by decide +kernel
theorem dX8_back_27 : decode cX8_back 27 = .ok (.iload_n 1, 1) := by decide +kernel
theorem dX8_back_28 : decode cX8_back 28 = .ok (.iadd, 1) := by decide +kernel
theorem dX8_back_29 : decode cX8_back 29 = .ok (.iconst 0, 1) := by decide +kernel
theorem dX8_back_30 : decode cX8_back 30 = .ok (.invokevirtual 222, 3) := by decide +kernel
theorem dX8_back_33 : decode cX8_back 33 = .ok (.aload_n 0, 1) := by decide +kernel
theorem dX8_back_34 : decode cX8_back 34 = .ok (.getfield 7, 3) := by decide +kernel
theorem dX8_back_37 : decode cX8_back 37 = .ok (.iconst 0, 1) := by decide +kernel
theorem dX8_back_38 : decode cX8_back 38 = .ok (.iaload, 1) := by decide +kernel
theorem dX8_back_39 : decode cX8_back 39 = .ok (.ireturn, 1) := by decide +kernel
theorem dX8_layAts_0 : decode cX8_layAts 0 = .ok (.iconst 0, 1) := by decide +kernel
theorem dX8_layAts_1 : decode cX8_layAts 1 = .ok (.istore_n 2, 1) := by decide +kernel
theorem dX8_layAts_2 : decode cX8_layAts 2 = .ok (.iload_n 2, 1) := by decide +kernel
theorem dX8_layAts_3 : decode cX8_layAts 3 = .ok (.aload_n 0, 1) := by decide +kernel
theorem dX8_layAts_4 : decode cX8_layAts 4 = .ok (.getfield 74, 3) := by decide +kernel
theorem dX8_layAts_7 : decode cX8_layAts 7 = .ok (.if_icmp .ge 38, 3) := by decide +kernel
theorem dX8_layAts_10 : decode cX8_layAts 10 = .ok (.aload_n 0, 1) := by decide +kernel
theorem dX8_layAts_11 : decode cX8_layAts 11 = .ok (.getfield 42, 3) := by decide +kernel
theorem dX8_layAts_14 : decode cX8_layAts 14 = .ok (.iload_n 2, 1) := by decide +kernel
theorem dX8_layAts_15 : decode cX8_layAts 15 = .ok (.aload_n 0, 1) := by decide +kernel
theorem dX8_layAts_16 : decode cX8_layAts 16 = .ok (.aload_n 0, 1) := by decide +kernel
theorem dX8_layAts_17 : decode cX8_layAts 17 = .ok (.getfield 30, 3) := by decide +kernel
theorem dX8_layAts_20 : decode cX8_layAts 20 = .ok (.iload_n 2, 1) := by decide +kernel
theorem dX8_layAts_21 : decode cX8_layAts 21 = .ok (.iaload, 1) := by decide +kernel
theorem dX8_layAts_22 : decode cX8_layAts 22 = .ok (.aload_n 0, 1) := by decide +kernel
theorem dX8_layAts_23 : decode cX8_layAts 23 = .ok (.getfield 33, 3) := by decide +kernel
theorem dX8_layAts_26 : decode cX8_layAts 26 = .ok (.iload_n 2, 1) := by decide +kernel
theorem dX8_layAts_27 : decode cX8_layAts 27 = .ok (.iaload, 1) := by decide +kernel
theorem dX8_layAts_28 : decode cX8_layAts 28 = .ok (.aload_n 0, 1) := by decide +kernel
theorem dX8_layAts_29 : decode cX8_layAts 29 = .ok (.getfield 36, 3) := by decide +kernel
theorem dX8_layAts_32 : decode cX8_layAts 32 = .ok (.iload_n 2, 1) := by decide +kernel
theorem dX8_layAts_33 : decode cX8_layAts 33 = .ok (.iaload, 1) := by decide +kernel
theorem dX8_layAts_34 : decode cX8_layAts 34 = .ok (.iload_n 1, 1) := by decide +kernel
theorem dX8_layAts_35 : decode cX8_layAts 35 = .ok (.invokevirtual 209, 3) := by decide +kernel
theorem dX8_layAts_38 : decode cX8_layAts 38 = .ok (.iastore, 1) := by decide +kernel
theorem dX8_layAts_39 : decode cX8_layAts 39 = .ok (.iinc 2 1, 3) := by decide +kernel
theorem dX8_layAts_42 : decode cX8_layAts 42 = .ok (.goto (-40), 3) := by decide +kernel
theorem dX8_layAts_45 : decode cX8_layAts 45 = .ok (.return_, 1) := by decide +kernel
theorem dX8_standingAt_0 : decode cX8_standingAt 0 = .ok (.aload_n 0, 1) := by decide +kernel
theorem dX8_standingAt_1 : decode cX8_standingAt 1 = .ok (.iload_n 1, 1) := by decide +kernel
theorem dX8_standingAt_2 : decode cX8_standingAt 2 = .ok (.invokevirtual 226, 3) := by decide +kernel
theorem dX8_standingAt_5 : decode cX8_standingAt 5 = .ok (.aload_n 0, 1) := by decide +kernel
theorem dX8_standingAt_6 : decode cX8_standingAt 6 = .ok (.aload_n 0, 1) := by decide +kernel
theorem dX8_standingAt_7 : decode cX8_standingAt 7 = .ok (.getfield 154, 3) := by decide +kernel
theorem dX8_standingAt_10 : decode cX8_standingAt 10 = .ok (.aload_n 0, 1) := by decide +kernel
theorem dX8_standingAt_11 : decode cX8_standingAt 11 = .ok (.invokevirtual 213, 3) := by decide +kernel
theorem dX8_standingAt_14 : decode cX8_standingAt 14 = .ok (.invokevirtual 216, 3) := by decide +kernel
theorem dX8_standingAt_17 : decode cX8_standingAt 17 = .ok (.ireturn, 1) := by decide +kernel
theorem dX8_isTime_0 : decode cX8_isTime 0 = .ok (.iload_n 0, 1) := by decide +kernel
theorem dX8_isTime_1 : decode cX8_isTime 1 = .ok (.i2l, 1) := by decide +kernel
theorem dX8_isTime_2 : decode cX8_isTime 2 = .ok (.lconst 0, 1) := by decide +kernel
theorem dX8_isTime_3 : decode cX8_isTime 3 = .ok (.ldc2_w 207, 3) := by decide +kernel
theorem dX8_isTime_6 : decode cX8_isTime 6 = .ok (.invokestatic 70, 3) := by decide +kernel
theorem dX8_isTime_9 : decode cX8_isTime 9 = .ok (.ireturn, 1) := by decide +kernel
theorem dX8_isSpan_0 : decode cX8_isSpan 0 = .ok (.iload_n 0, 1) := by decide +kernel
theorem dX8_isSpan_1 : decode cX8_isSpan 1 = .ok (.invokestatic 229, 3) := by decide +kernel
theorem dX8_isSpan_4 : decode cX8_isSpan 4 = .ok (.ifCond .eq 19, 3) := by decide +kernel
theorem dX8_isSpan_7 : decode cX8_isSpan 7 = .ok (.iload_n 1, 1) := by decide +kernel
theorem dX8_isSpan_8 : decode cX8_isSpan 8 = .ok (.invokestatic 229, 3) := by decide +kernel
theorem dX8_isSpan_11 : decode cX8_isSpan 11 = .ok (.ifCond .eq 12, 3) := by decide +kernel
theorem dX8_isSpan_14 : decode cX8_isSpan 14 = .ok (.iload_n 1, 1) := by decide +kernel
theorem dX8_isSpan_15 : decode cX8_isSpan 15 = .ok (.iload_n 0, 1) := by decide +kernel
theorem dX8_isSpan_16 : decode cX8_isSpan 16 = .ok (.if_icmp .lt 7, 3) := by decide +kernel
theorem dX8_isSpan_19 : decode cX8_isSpan 19 = .ok (.iconst 1, 1) := by decide +kernel
theorem dX8_isSpan_20 : decode cX8_isSpan 20 = .ok (.goto 4, 3) := by decide +kernel
theorem dX8_isSpan_23 : decode cX8_isSpan 23 = .ok (.iconst 0, 1) := by decide +kernel
theorem dX8_isSpan_24 : decode cX8_isSpan 24 = .ok (.ireturn, 1) := by decide +kernel
theorem dX8_standing_0 : decode cX8_standing 0 = .ok (.iload_n 1, 1) := by decide +kernel
theorem dX8_standing_1 : decode cX8_standing 1 = .ok (.invokestatic 229, 3) := by decide +kernel
theorem dX8_standing_4 : decode cX8_standing 4 = .ok (.ifCond .eq 11, 3) := by decide +kernel
theorem dX8_standing_7 : decode cX8_standing 7 = .ok (.aload_n 0, 1) := by decide +kernel
theorem dX8_standing_8 : decode cX8_standing 8 = .ok (.iload_n 1, 1) := by decide +kernel
theorem dX8_standing_9 : decode cX8_standing 9 = .ok (.invokevirtual 232, 3) := by decide +kernel
theorem dX8_standing_12 : decode cX8_standing 12 = .ok (.goto 5, 3) := by decide +kernel
theorem dX8_standing_15 : decode cX8_standing 15 = .ok (.bipush (-3), 2) := by decide +kernel
theorem dX8_standing_17 : decode cX8_standing 17 = .ok (.ireturn, 1) := by decide +kernel
theorem dX8_minutesOf_0 : decode cX8_minutesOf 0 = .ok (.iconst 0, 1) := by decide +kernel
theorem dX8_minutesOf_1 : decode cX8_minutesOf 1 = .ok (.istore 4, 2) := by decide +kernel
theorem dX8_minutesOf_3 : decode cX8_minutesOf 3 = .ok (.iload_n 2, 1) := by decide +kernel
theorem dX8_minutesOf_4 : decode cX8_minutesOf 4 = .ok (.istore 5, 2) := by decide +kernel
theorem dX8_minutesOf_6 : decode cX8_minutesOf 6 = .ok (.iload 5, 2) := by decide +kernel
theorem dX8_minutesOf_8 : decode cX8_minutesOf 8 = .ok (.iload_n 3, 1) := by decide +kernel
theorem dX8_minutesOf_9 : decode cX8_minutesOf 9 = .ok (.if_icmp .gt 32, 3) := by decide +kernel
theorem dX8_minutesOf_12 : decode cX8_minutesOf 12 = .ok (.iload 4, 2) := by decide +kernel
theorem dX8_minutesOf_14 : decode cX8_minutesOf 14 = .ok (.aload_n 0, 1) := by decide +kernel
theorem dX8_minutesOf_15 : decode cX8_minutesOf 15 = .ok (.iload 5, 2) := by decide +kernel
theorem dX8_minutesOf_17 : decode cX8_minutesOf 17 = .ok (.invokevirtual 232, 3) := by decide +kernel
theorem dX8_minutesOf_20 : decode cX8_minutesOf 20 = .ok (.iload_n 1, 1) := by decide +kernel
theorem dX8_minutesOf_21 : decode cX8_minutesOf 21 = .ok (.invokestatic 130, 3) := by decide +kernel
theorem dX8_minutesOf_24 : decode cX8_minutesOf 24 = .ok (.ifCond .eq 7, 3) := by decide +kernel
theorem dX8_minutesOf_27 : decode cX8_minutesOf 27 = .ok (.iconst 1, 1) := by decide +kernel
theorem dX8_minutesOf_28 : decode cX8_minutesOf 28 = .ok (.goto 4, 3) := by decide +kernel
theorem dX8_minutesOf_31 : decode cX8_minutesOf 31 = .ok (.iconst 0, 1) := by decide +kernel
theorem dX8_minutesOf_32 : decode cX8_minutesOf 32 = .ok (.iadd, 1) := by decide +kernel
theorem dX8_minutesOf_33 : decode cX8_minutesOf 33 = .ok (.istore 4, 2) := by decide +kernel
theorem dX8_minutesOf_35 : decode cX8_minutesOf 35 = .ok (.iinc 5 1, 3) := by decide +kernel
theorem dX8_minutesOf_38 : decode cX8_minutesOf 38 = .ok (.goto (-32), 3) := by decide +kernel
theorem dX8_minutesOf_41 : decode cX8_minutesOf 41 = .ok (.iload 4, 2) := by decide +kernel
theorem dX8_minutesOf_43 : decode cX8_minutesOf 43 = .ok (.ireturn, 1) := by decide +kernel
theorem dX8_odds_0 : decode cX8_odds 0 = .ok (.aload_n 0, 1) := by decide +kernel
theorem dX8_odds_1 : decode cX8_odds 1 = .ok (.iload_n 1, 1) := by decide +kernel
theorem dX8_odds_2 : decode cX8_odds 2 = .ok (.invokevirtual 173, 3) := by decide +kernel
theorem dX8_odds_5 : decode cX8_odds 5 = .ok (.ifCond .ne 6, 3) := by decide +kernel
theorem dX8_odds_8 : decode cX8_odds 8 = .ok (.bipush (-2), 2) := by decide +kernel
theorem dX8_odds_10 : decode cX8_odds 10 = .ok (.ireturn, 1) := by decide +kernel
theorem dX8_odds_11 : decode cX8_odds 11 = .ok (.iload_n 2, 1) := by decide +kernel
theorem dX8_odds_12 : decode cX8_odds 12 = .ok (.iload_n 3, 1) := by decide +kernel
theorem dX8_odds_13 : decode cX8_odds 13 = .ok (.invokestatic 235, 3) := by decide +kernel
theorem dX8_odds_16 : decode cX8_odds 16 = .ok (.ifCond .eq 14, 3) := by decide +kernel
theorem dX8_odds_19 : decode cX8_odds 19 = .ok (.iload 4, 2) := by decide +kernel
theorem dX8_odds_21 : decode cX8_odds 21 = .ok (.i2l, 1) := by decide +kernel
theorem dX8_odds_22 : decode cX8_odds 22 = .ok (.lconst 0, 1) := by decide +kernel
theorem dX8_odds_23 : decode cX8_odds 23 = .ok (.lconst 1, 1) := by decide +kernel
theorem dX8_odds_24 : decode cX8_odds 24 = .ok (.invokestatic 70, 3) := by decide +kernel
theorem dX8_odds_27 : decode cX8_odds 27 = .ok (.ifCond .ne 6, 3) := by decide +kernel
theorem dX8_odds_30 : decode cX8_odds 30 = .ok (.bipush (-3), 2) := by decide +kernel
theorem dX8_odds_32 : decode cX8_odds 32 = .ok (.ireturn, 1) := by decide +kernel
theorem dX8_odds_33 : decode cX8_odds 33 = .ok (.aload_n 0, 1) := by decide +kernel
theorem dX8_odds_34 : decode cX8_odds 34 = .ok (.iload_n 1, 1) := by decide +kernel
theorem dX8_odds_35 : decode cX8_odds 35 = .ok (.iload_n 2, 1) := by decide +kernel
theorem dX8_odds_36 : decode cX8_odds 36 = .ok (.iload_n 3, 1) := by decide +kernel
theorem dX8_odds_37 : decode cX8_odds 37 = .ok (.invokevirtual 238, 3) := by decide +kernel
theorem dX8_odds_40 : decode cX8_odds 40 = .ok (.istore 5, 2) := by decide +kernel
theorem dX8_odds_42 : decode cX8_odds 42 = .ok (.iload_n 3, 1) := by decide +kernel
theorem dX8_odds_43 : decode cX8_odds 43 = .ok (.iload_n 2, 1) := by decide +kernel
theorem dX8_odds_44 : decode cX8_odds 44 = .ok (.isub, 1) := by decide +kernel
theorem dX8_odds_45 : decode cX8_odds 45 = .ok (.iconst 1, 1) := by decide +kernel
theorem dX8_odds_46 : decode cX8_odds 46 = .ok (.iadd, 1) := by decide +kernel
theorem dX8_odds_47 : decode cX8_odds 47 = .ok (.istore 6, 2) := by decide +kernel
theorem dX8_odds_49 : decode cX8_odds 49 = .ok (.iload 5, 2) := by decide +kernel
theorem dX8_odds_51 : decode cX8_odds 51 = .ok (.istore 7, 2) := by decide +kernel
theorem dX8_odds_53 : decode cX8_odds 53 = .ok (.iload 6, 2) := by decide +kernel
theorem dX8_odds_55 : decode cX8_odds 55 = .ok (.istore 8, 2) := by decide +kernel
theorem dX8_odds_57 : decode cX8_odds 57 = .ok (.iload 8, 2) := by decide +kernel
theorem dX8_odds_59 : decode cX8_odds 59 = .ok (.ifCond .eq 21, 3) := by decide +kernel
theorem dX8_odds_62 : decode cX8_odds 62 = .ok (.iload 7, 2) := by decide +kernel
theorem dX8_odds_64 : decode cX8_odds 64 = .ok (.iload 8, 2) := by decide +kernel
theorem dX8_odds_66 : decode cX8_odds 66 = .ok (.irem, 1) := by decide +kernel
theorem dX8_odds_67 : decode cX8_odds 67 = .ok (.istore 9, 2) := by decide +kernel
theorem dX8_odds_69 : decode cX8_odds 69 = .ok (.iload 8, 2) := by decide +kernel
theorem dX8_odds_71 : decode cX8_odds 71 = .ok (.istore 7, 2) := by decide +kernel
theorem dX8_odds_73 : decode cX8_odds 73 = .ok (.iload 9, 2) := by decide +kernel
theorem dX8_odds_75 : decode cX8_odds 75 = .ok (.istore 8, 2) := by decide +kernel
theorem dX8_odds_77 : decode cX8_odds 77 = .ok (.goto (-20), 3) := by decide +kernel
theorem dX8_odds_80 : decode cX8_odds 80 = .ok (.iload 4, 2) := by decide +kernel
theorem dX8_odds_82 : decode cX8_odds 82 = .ok (.ifCond .ne 11, 3) := by decide +kernel
theorem dX8_odds_85 : decode cX8_odds 85 = .ok (.iload 5, 2) := by decide +kernel
theorem dX8_odds_87 : decode cX8_odds 87 = .ok (.iload 7, 2) := by decide +kernel
theorem dX8_odds_89 : decode cX8_odds 89 = .ok (.idiv, 1) := by decide +kernel
theorem dX8_odds_90 : decode cX8_odds 90 = .ok (.goto 8, 3) := by decide +kernel
theorem dX8_odds_93 : decode cX8_odds 93 = .ok (.iload 6, 2) := by decide +kernel
theorem dX8_odds_95 : decode cX8_odds 95 = .ok (.iload 7, 2) := by decide +kernel
theorem dX8_odds_97 : decode cX8_odds 97 = .ok (.idiv, 1) := by decide +kernel
theorem dX8_odds_98 : decode cX8_odds 98 = .ok (.ireturn, 1) := by decide +kernel
theorem dX8_surest_0 : decode cX8_surest 0 = .ok (.aload_n 0, 1) := by decide +kernel
theorem dX8_surest_1 : decode cX8_surest 1 = .ok (.iload_n 1, 1) := by decide +kernel
theorem dX8_surest_2 : decode cX8_surest 2 = .ok (.invokevirtual 173, 3) := by decide +kernel
theorem dX8_surest_5 : decode cX8_surest 5 = .ok (.ifCond .ne 6, 3) := by decide +kernel
theorem dX8_surest_8 : decode cX8_surest 8 = .ok (.bipush (-2), 2) := by decide +kernel
theorem dX8_surest_10 : decode cX8_surest 10 = .ok (.ireturn, 1) := by decide +kernel
theorem dX8_surest_11 : decode cX8_surest 11 = .ok (.iload_n 2, 1) := by decide +kernel
theorem dX8_surest_12 : decode cX8_surest 12 = .ok (.iload_n 3, 1) := by decide +kernel
theorem dX8_surest_13 : decode cX8_surest 13 = .ok (.invokestatic 235, 3) := by decide +kernel
theorem dX8_surest_16 : decode cX8_surest 16 = .ok (.ifCond .eq 16, 3) := by decide +kernel
theorem dX8_surest_19 : decode cX8_surest 19 = .ok (.iload 4, 2) := by decide +kernel
theorem dX8_surest_21 : decode cX8_surest 21 = .ok (.i2l, 1) := by decide +kernel
theorem dX8_surest_22 : decode cX8_surest 22 = .ok (.lconst 0, 1) := by decide +kernel
theorem dX8_surest_23 : decode cX8_surest 23 = .ok (.ldc2_w 241, 3) := by decide +kernel
theorem dX8_surest_26 : decode cX8_surest 26 = .ok (.invokestatic 70, 3) := by decide +kernel
theorem dX8_surest_29 : decode cX8_surest 29 = .ok (.ifCond .ne 6, 3) := by decide +kernel
theorem dX8_surest_32 : decode cX8_surest 32 = .ok (.bipush (-3), 2) := by decide +kernel
theorem dX8_surest_34 : decode cX8_surest 34 = .ok (.ireturn, 1) := by decide +kernel
theorem dX8_surest_35 : decode cX8_surest 35 = .ok (.aload_n 0, 1) := by decide +kernel
theorem dX8_surest_36 : decode cX8_surest 36 = .ok (.getfield 33, 3) := by decide +kernel
theorem dX8_surest_39 : decode cX8_surest 39 = .ok (.iload_n 1, 1) := by decide +kernel
theorem dX8_surest_40 : decode cX8_surest 40 = .ok (.iaload, 1) := by decide +kernel
theorem dX8_surest_41 : decode cX8_surest 41 = .ok (.istore 5, 2) := by decide +kernel
theorem dX8_surest_43 : decode cX8_surest 43 = .ok (.aload_n 0, 1) := by decide +kernel
theorem dX8_surest_44 : decode cX8_surest 44 = .ok (.getfield 36, 3) := by decide +kernel
theorem dX8_surest_47 : decode cX8_surest 47 = .ok (.iload_n 1, 1) := by decide +kernel
theorem dX8_surest_48 : decode cX8_surest 48 = .ok (.iaload, 1) := by decide +kernel
theorem dX8_surest_49 : decode cX8_surest 49 = .ok (.istore 6, 2) := by decide +kernel
theorem dX8_surest_51 : decode cX8_surest 51 = .ok (.iconst (-1), 1) := by decide +kernel
theorem dX8_surest_52 : decode cX8_surest 52 = .ok (.istore 7, 2) := by decide +kernel
theorem dX8_surest_54 : decode cX8_surest 54 = .ok (.sipush 999, 3) := by decide +kernel
theorem dX8_surest_57 : decode cX8_surest 57 = .ok (.istore 8, 2) := by decide +kernel
theorem dX8_surest_59 : decode cX8_surest 59 = .ok (.iconst 0, 1) := by decide +kernel
theorem dX8_surest_60 : decode cX8_surest 60 = .ok (.istore 9, 2) := by decide +kernel
theorem dX8_surest_62 : decode cX8_surest 62 = .ok (.iload 9, 2) := by decide +kernel
theorem dX8_surest_64 : decode cX8_surest 64 = .ok (.bipush 8, 2) := by decide +kernel
theorem dX8_surest_66 : decode cX8_surest 66 = .ok (.if_icmp .ge 70, 3) := by decide +kernel
theorem dX8_surest_69 : decode cX8_surest 69 = .ok (.aload_n 0, 1) := by decide +kernel
theorem dX8_surest_70 : decode cX8_surest 70 = .ok (.getfield 33, 3) := by decide +kernel
theorem dX8_surest_73 : decode cX8_surest 73 = .ok (.iload_n 1, 1) := by decide +kernel
theorem dX8_surest_74 : decode cX8_surest 74 = .ok (.iload 9, 2) := by decide +kernel
theorem dX8_surest_76 : decode cX8_surest 76 = .ok (.iconst 2, 1) := by decide +kernel
theorem dX8_surest_77 : decode cX8_surest 77 = .ok (.idiv, 1) := by decide +kernel
theorem dX8_surest_78 : decode cX8_surest 78 = .ok (.iastore, 1) := by decide +kernel
theorem dX8_surest_79 : decode cX8_surest 79 = .ok (.aload_n 0, 1) := by decide +kernel
theorem dX8_surest_80 : decode cX8_surest 80 = .ok (.getfield 36, 3) := by decide +kernel
theorem dX8_surest_83 : decode cX8_surest 83 = .ok (.iload_n 1, 1) := by decide +kernel
theorem dX8_surest_84 : decode cX8_surest 84 = .ok (.iload 9, 2) := by decide +kernel
theorem dX8_surest_86 : decode cX8_surest 86 = .ok (.iconst 2, 1) := by decide +kernel
theorem dX8_surest_87 : decode cX8_surest 87 = .ok (.irem, 1) := by decide +kernel
theorem dX8_surest_88 : decode cX8_surest 88 = .ok (.iastore, 1) := by decide +kernel
theorem dX8_surest_89 : decode cX8_surest 89 = .ok (.aload_n 0, 1) := by decide +kernel
theorem dX8_surest_90 : decode cX8_surest 90 = .ok (.iload_n 1, 1) := by decide +kernel
theorem dX8_surest_91 : decode cX8_surest 91 = .ok (.iload_n 2, 1) := by decide +kernel
theorem dX8_surest_92 : decode cX8_surest 92 = .ok (.iload_n 3, 1) := by decide +kernel
theorem dX8_surest_93 : decode cX8_surest 93 = .ok (.invokevirtual 238, 3) := by decide +kernel
theorem dX8_surest_96 : decode cX8_surest 96 = .ok (.istore 10, 2) := by decide +kernel
theorem dX8_surest_98 : decode cX8_surest 98 = .ok (.iload 10, 2) := by decide +kernel
theorem dX8_surest_100 : decode cX8_surest 100 = .ok (.iload 8, 2) := by decide +kernel
theorem dX8_surest_102 : decode cX8_surest 102 = .ok (.if_icmp .ge 8, 3) := by decide +kernel
theorem dX8_surest_105 : decode cX8_surest 105 = .ok (.iload 9, 2) := by decide +kernel
theorem dX8_surest_107 : decode cX8_surest 107 = .ok (.goto 5, 3) := by decide +kernel
theorem dX8_surest_110 : decode cX8_surest 110 = .ok (.iload 7, 2) := by decide +kernel
theorem dX8_surest_112 : decode cX8_surest 112 = .ok (.istore 7, 2) := by decide +kernel
theorem dX8_surest_114 : decode cX8_surest 114 = .ok (.iload 10, 2) := by decide +kernel
theorem dX8_surest_116 : decode cX8_surest 116 = .ok (.iload 8, 2) := by decide +kernel
theorem dX8_surest_118 : decode cX8_surest 118 = .ok (.if_icmp .ge 8, 3) := by decide +kernel
theorem dX8_surest_121 : decode cX8_surest 121 = .ok (.iload 10, 2) := by decide +kernel
theorem dX8_surest_123 : decode cX8_surest 123 = .ok (.goto 5, 3) := by decide +kernel
theorem dX8_surest_126 : decode cX8_surest 126 = .ok (.iload 8, 2) := by decide +kernel
theorem dX8_surest_128 : decode cX8_surest 128 = .ok (.istore 8, 2) := by decide +kernel
theorem dX8_surest_130 : decode cX8_surest 130 = .ok (.iinc 9 1, 3) := by decide +kernel
theorem dX8_surest_133 : decode cX8_surest 133 = .ok (.goto (-71), 3) := by decide +kernel
theorem dX8_surest_136 : decode cX8_surest 136 = .ok (.aload_n 0, 1) := by decide +kernel
theorem dX8_surest_137 : decode cX8_surest 137 = .ok (.getfield 33, 3) := by decide +kernel
theorem dX8_surest_140 : decode cX8_surest 140 = .ok (.iload_n 1, 1) := by decide +kernel
theorem dX8_surest_141 : decode cX8_surest 141 = .ok (.iload 5, 2) := by decide +kernel
theorem dX8_surest_143 : decode cX8_surest 143 = .ok (.iastore, 1) := by decide +kernel
theorem dX8_surest_144 : decode cX8_surest 144 = .ok (.aload_n 0, 1) := by decide +kernel
theorem dX8_surest_145 : decode cX8_surest 145 = .ok (.getfield 36, 3) := by decide +kernel
theorem dX8_surest_148 : decode cX8_surest 148 = .ok (.iload_n 1, 1) := by decide +kernel
theorem dX8_surest_149 : decode cX8_surest 149 = .ok (.iload 6, 2) := by decide +kernel
theorem dX8_surest_151 : decode cX8_surest 151 = .ok (.iastore, 1) := by decide +kernel
theorem dX8_surest_152 : decode cX8_surest 152 = .ok (.iload 4, 2) := by decide +kernel
theorem dX8_surest_154 : decode cX8_surest 154 = .ok (.ifCond .ne 10, 3) := by decide +kernel
theorem dX8_surest_157 : decode cX8_surest 157 = .ok (.iload 7, 2) := by decide +kernel
theorem dX8_surest_159 : decode cX8_surest 159 = .ok (.iconst 2, 1) := by decide +kernel
theorem dX8_surest_160 : decode cX8_surest 160 = .ok (.idiv, 1) := by decide +kernel
theorem dX8_surest_161 : decode cX8_surest 161 = .ok (.goto 18, 3) := by decide +kernel
theorem dX8_surest_164 : decode cX8_surest 164 = .ok (.iload 4, 2) := by decide +kernel
theorem dX8_surest_166 : decode cX8_surest 166 = .ok (.iconst 1, 1) := by decide +kernel
theorem dX8_surest_167 : decode cX8_surest 167 = .ok (.if_icmp .ne 10, 3) := by decide +kernel
theorem dX8_surest_170 : decode cX8_surest 170 = .ok (.iload 7, 2) := by decide +kernel
theorem dX8_surest_172 : decode cX8_surest 172 = .ok (.iconst 2, 1) := by decide +kernel
theorem dX8_surest_173 : decode cX8_surest 173 = .ok (.irem, 1) := by decide +kernel
theorem dX8_surest_174 : decode cX8_surest 174 = .ok (.goto 5, 3) := by decide +kernel
theorem dX8_surest_177 : decode cX8_surest 177 = .ok (.iload 8, 2) := by decide +kernel
theorem dX8_surest_179 : decode cX8_surest 179 = .ok (.ireturn, 1) := by decide +kernel
theorem dX8_savePaces_0 : decode cX8_savePaces 0 = .ok (.iconst 0, 1) := by decide +kernel
theorem dX8_savePaces_1 : decode cX8_savePaces 1 = .ok (.istore_n 1, 1) := by decide +kernel
theorem dX8_savePaces_2 : decode cX8_savePaces 2 = .ok (.iload_n 1, 1) := by decide +kernel
theorem dX8_savePaces_3 : decode cX8_savePaces 3 = .ok (.aload_n 0, 1) := by decide +kernel
theorem dX8_savePaces_4 : decode cX8_savePaces 4 = .ok (.getfield 74, 3) := by decide +kernel
theorem dX8_savePaces_7 : decode cX8_savePaces 7 = .ok (.if_icmp .ge 21, 3) := by decide +kernel
theorem dX8_savePaces_10 : decode cX8_savePaces 10 = .ok (.aload_n 0, 1) := by decide +kernel
theorem dX8_savePaces_11 : decode cX8_savePaces 11 = .ok (.getfield 51, 3) := by decide +kernel
theorem dX8_savePaces_14 : decode cX8_savePaces 14 = .ok (.iload_n 1, 1) := by decide +kernel
theorem dX8_savePaces_15 : decode cX8_savePaces 15 = .ok (.aload_n 0, 1) := by decide +kernel
theorem dX8_savePaces_16 : decode cX8_savePaces 16 = .ok (.getfield 33, 3) := by decide +kernel
theorem dX8_savePaces_19 : decode cX8_savePaces 19 = .ok (.iload_n 1, 1) := by decide +kernel
theorem dX8_savePaces_20 : decode cX8_savePaces 20 = .ok (.iaload, 1) := by decide +kernel
theorem dX8_savePaces_21 : decode cX8_savePaces 21 = .ok (.iastore, 1) := by decide +kernel
theorem dX8_savePaces_22 : decode cX8_savePaces 22 = .ok (.iinc 1 1, 3) := by decide +kernel
theorem dX8_savePaces_25 : decode cX8_savePaces 25 = .ok (.goto (-23), 3) := by decide +kernel
theorem dX8_savePaces_28 : decode cX8_savePaces 28 = .ok (.return_, 1) := by decide +kernel
theorem dX8_restorePaces_0 : decode cX8_restorePaces 0 = .ok (.iconst 0, 1) := by decide +kernel
theorem dX8_restorePaces_1 : decode cX8_restorePaces 1 = .ok (.istore_n 1, 1) := by decide +kernel
theorem dX8_restorePaces_2 : decode cX8_restorePaces 2 = .ok (.iload_n 1, 1) := by decide +kernel
theorem dX8_restorePaces_3 : decode cX8_restorePaces 3 = .ok (.aload_n 0, 1) := by decide +kernel
theorem dX8_restorePaces_4 : decode cX8_restorePaces 4 = .ok (.getfield 74, 3) := by decide +kernel
theorem dX8_restorePaces_7 : decode cX8_restorePaces 7 = .ok (.if_icmp .ge 21, 3) := by decide +kernel
theorem dX8_restorePaces_10 : decode cX8_restorePaces 10 = .ok (.aload_n 0, 1) := by decide +kernel
theorem dX8_restorePaces_11 : decode cX8_restorePaces 11 = .ok (.getfield 33, 3) := by decide +kernel
theorem dX8_restorePaces_14 : decode cX8_restorePaces 14 = .ok (.iload_n 1, 1) := by decide +kernel
theorem dX8_restorePaces_15 : decode cX8_restorePaces 15 = .ok (.aload_n 0, 1) := by decide +kernel
theorem dX8_restorePaces_16 : decode cX8_restorePaces 16 = .ok (.getfield 51, 3) := by decide +kernel
theorem dX8_restorePaces_19 : decode cX8_restorePaces 19 = .ok (.iload_n 1, 1) := by decide +kernel
theorem dX8_restorePaces_20 : decode cX8_restorePaces 20 = .ok (.iaload, 1) := by decide +kernel
theorem dX8_restorePaces_21 : decode cX8_restorePaces 21 = .ok (.iastore, 1) := by decide +kernel
theorem dX8_restorePaces_22 : decode cX8_restorePaces 22 = .ok (.iinc 1 1, 3) := by decide +kernel
theorem dX8_restorePaces_25 : decode cX8_restorePaces 25 = .ok (.goto (-23), 3) := by decide +kernel
theorem dX8_restorePaces_28 : decode cX8_restorePaces 28 = .ok (.return_, 1) := by decide +kernel
theorem dX8_layStands_0 : decode cX8_layStands 0 = .ok (.iconst 0, 1) := by decide +kernel
theorem dX8_layStands_1 : decode cX8_layStands 1 = .ok (.istore 4, 2) := by decide +kernel
theorem dX8_layStands_3 : decode cX8_layStands 3 = .ok (.iload 4, 2) := by decide +kernel
theorem dX8_layStands_5 : decode cX8_layStands 5 = .ok (.aload_n 0, 1) := by decide +kernel
theorem dX8_layStands_6 : decode cX8_layStands 6 = .ok (.getfield 74, 3) := by decide +kernel
theorem dX8_layStands_9 : decode cX8_layStands 9 = .ok (.if_icmp .ge 35, 3) := by decide +kernel
theorem dX8_layStands_12 : decode cX8_layStands 12 = .ok (.aload_n 0, 1) := by decide +kernel
theorem dX8_layStands_13 : decode cX8_layStands 13 = .ok (.getfield 33, 3) := by decide +kernel
theorem dX8_layStands_16 : decode cX8_layStands 16 = .ok (.iload 4, 2) := by decide +kernel
theorem dX8_layStands_18 : decode cX8_layStands 18 = .ok (.iload_n 1, 1) := by decide +kernel
theorem dX8_layStands_19 : decode cX8_layStands 19 = .ok (.iload 4, 2) := by decide +kernel
theorem dX8_layStands_21 : decode cX8_layStands 21 = .ok (.ishr, 1) := by decide +kernel
theorem dX8_layStands_22 : decode cX8_layStands 22 = .ok (.iconst 1, 1) := by decide +kernel
theorem dX8_layStands_23 : decode cX8_layStands 23 = .ok (.iand, 1) := by decide +kernel
theorem dX8_layStands_24 : decode cX8_layStands 24 = .ok (.iastore, 1) := by decide +kernel
theorem dX8_layStands_25 : decode cX8_layStands 25 = .ok (.aload_n 0, 1) := by decide +kernel
theorem dX8_layStands_26 : decode cX8_layStands 26 = .ok (.getfield 54, 3) := by decide +kernel
theorem dX8_layStands_29 : decode cX8_layStands 29 = .ok (.bipush 6, 2) := by decide +kernel
theorem dX8_layStands_31 : decode cX8_layStands 31 = .ok (.iload_n 1, 1) := by decide +kernel
theorem dX8_layStands_32 : decode cX8_layStands 32 = .ok (.imul, 1) := by decide +kernel
theorem dX8_layStands_33 : decode cX8_layStands 33 = .ok (.iload 4, 2) := by decide +kernel
theorem dX8_layStands_35 : decode cX8_layStands 35 = .ok (.iadd, 1) := by decide +kernel
theorem dX8_layStands_36 : decode cX8_layStands 36 = .ok (.iconst 0, 1) := by decide +kernel
theorem dX8_layStands_37 : decode cX8_layStands 37 = .ok (.iastore, 1) := by decide +kernel
theorem dX8_layStands_38 : decode cX8_layStands 38 = .ok (.iinc 4 1, 3) := by decide +kernel
theorem dX8_layStands_41 : decode cX8_layStands 41 = .ok (.goto (-38), 3) := by decide +kernel
theorem dX8_layStands_44 : decode cX8_layStands 44 = .ok (.iload_n 2, 1) := by decide +kernel
theorem dX8_layStands_45 : decode cX8_layStands 45 = .ok (.istore 4, 2) := by decide +kernel
theorem dX8_layStands_47 : decode cX8_layStands 47 = .ok (.iload 4, 2) := by decide +kernel
theorem dX8_layStands_49 : decode cX8_layStands 49 = .ok (.iload_n 3, 1) := by decide +kernel
theorem dX8_layStands_50 : decode cX8_layStands 50 = .ok (.if_icmp .gt 57, 3) := by decide +kernel
theorem dX8_layStands_53 : decode cX8_layStands 53 = .ok (.aload_n 0, 1) := by decide +kernel
theorem dX8_layStands_54 : decode cX8_layStands 54 = .ok (.iload 4, 2) := by decide +kernel
theorem dX8_layStands_56 : decode cX8_layStands 56 = .ok (.invokevirtual 232, 3) := by decide +kernel
theorem dX8_layStands_59 : decode cX8_layStands 59 = .ok (.istore 5, 2) := by decide +kernel
theorem dX8_layStands_61 : decode cX8_layStands 61 = .ok (.iconst 0, 1) := by decide +kernel
theorem dX8_layStands_62 : decode cX8_layStands 62 = .ok (.istore 6, 2) := by decide +kernel
theorem dX8_layStands_64 : decode cX8_layStands 64 = .ok (.iload 6, 2) := by decide +kernel
theorem dX8_layStands_66 : decode cX8_layStands 66 = .ok (.aload_n 0, 1) := by decide +kernel
theorem dX8_layStands_67 : decode cX8_layStands 67 = .ok (.getfield 74, 3) := by decide +kernel
theorem dX8_layStands_70 : decode cX8_layStands 70 = .ok (.if_icmp .ge 31, 3) := by decide +kernel
theorem dX8_layStands_73 : decode cX8_layStands 73 = .ok (.aload_n 0, 1) := by decide +kernel
theorem dX8_layStands_74 : decode cX8_layStands 74 = .ok (.getfield 54, 3) := by decide +kernel
theorem dX8_layStands_77 : decode cX8_layStands 77 = .ok (.bipush 6, 2) := by decide +kernel
theorem dX8_layStands_79 : decode cX8_layStands 79 = .ok (.iload_n 1, 1) := by decide +kernel
theorem dX8_layStands_80 : decode cX8_layStands 80 = .ok (.imul, 1) := by decide +kernel
theorem dX8_layStands_81 : decode cX8_layStands 81 = .ok (.iload 6, 2) := by decide +kernel
theorem dX8_layStands_83 : decode cX8_layStands 83 = .ok (.iadd, 1) := by decide +kernel
theorem dX8_layStands_84 : decode cX8_layStands 84 = .ok (.dup2, 1) := by decide +kernel
theorem dX8_layStands_85 : decode cX8_layStands 85 = .ok (.iaload, 1) := by decide +kernel
theorem dX8_layStands_86 : decode cX8_layStands 86 = .ok (.iload 5, 2) := by decide +kernel
theorem dX8_layStands_88 : decode cX8_layStands 88 = .ok (.iload 6, 2) := by decide +kernel
theorem dX8_layStands_90 : decode cX8_layStands 90 = .ok (.ishr, 1) := by decide +kernel
theorem dX8_layStands_91 : decode cX8_layStands 91 = .ok (.iconst 1, 1) := by decide +kernel
theorem dX8_layStands_92 : decode cX8_layStands 92 = .ok (.iand, 1) := by decide +kernel
theorem dX8_layStands_93 : decode cX8_layStands 93 = .ok (.iadd, 1) := by decide +kernel
theorem dX8_layStands_94 : decode cX8_layStands 94 = .ok (.iastore, 1) := by decide +kernel
theorem dX8_layStands_95 : decode cX8_layStands 95 = .ok (.iinc 6 1, 3) := by decide +kernel
theorem dX8_layStands_98 : decode cX8_layStands 98 = .ok (.goto (-34), 3) := by decide +kernel
theorem dX8_layStands_101 : decode cX8_layStands 101 = .ok (.iinc 4 1, 3) := by decide +kernel
theorem dX8_layStands_104 : decode cX8_layStands 104 = .ok (.goto (-57), 3) := by decide +kernel
theorem dX8_layStands_107 : decode cX8_layStands 107 = .ok (.return_, 1) := by decide +kernel
theorem dX8_isStill_0 : decode cX8_isStill 0 = .ok (.iconst 1, 1) := by decide +kernel
theorem dX8_isStill_1 : decode cX8_isStill 1 = .ok (.istore_n 2, 1) := by decide +kernel
theorem dX8_isStill_2 : decode cX8_isStill 2 = .ok (.iconst 0, 1) := by decide +kernel
theorem dX8_isStill_3 : decode cX8_isStill 3 = .ok (.istore_n 3, 1) := by decide +kernel
theorem dX8_isStill_4 : decode cX8_isStill 4 = .ok (.iload_n 3, 1) := by decide +kernel
theorem dX8_isStill_5 : decode cX8_isStill 5 = .ok (.aload_n 0, 1) := by decide +kernel
theorem dX8_isStill_6 : decode cX8_isStill 6 = .ok (.getfield 74, 3) := by decide +kernel
theorem dX8_isStill_9 : decode cX8_isStill 9 = .ok (.if_icmp .ge 48, 3) := by decide +kernel
theorem dX8_isStill_12 : decode cX8_isStill 12 = .ok (.iload_n 2, 1) := by decide +kernel
theorem dX8_isStill_13 : decode cX8_isStill 13 = .ok (.ifCond .eq 36, 3) := by decide +kernel
theorem dX8_isStill_16 : decode cX8_isStill 16 = .ok (.aload_n 0, 1) := by decide +kernel
theorem dX8_isStill_17 : decode cX8_isStill 17 = .ok (.getfield 54, 3) := by decide +kernel
theorem dX8_isStill_20 : decode cX8_isStill 20 = .ok (.bipush 6, 2) := by decide +kernel
theorem dX8_isStill_22 : decode cX8_isStill 22 = .ok (.iload_n 1, 1) := by decide +kernel
theorem dX8_isStill_23 : decode cX8_isStill 23 = .ok (.iconst 1, 1) := by decide +kernel
theorem dX8_isStill_24 : decode cX8_isStill 24 = .ok (.iload_n 3, 1) := by decide +kernel
theorem dX8_isStill_25 : decode cX8_isStill 25 = .ok (.ishl, 1) := by decide +kernel
theorem dX8_isStill_26 : decode cX8_isStill 26 = .ok (.ixor, 1) := by decide +kernel
theorem dX8_isStill_27 : decode cX8_isStill 27 = .ok (.imul, 1) := by decide +kernel
theorem dX8_isStill_28 : decode cX8_isStill 28 = .ok (.iload_n 3, 1) := by decide +kernel
theorem dX8_isStill_29 : decode cX8_isStill 29 = .ok (.iadd, 1) := by decide +kernel
theorem dX8_isStill_30 : decode cX8_isStill 30 = .ok (.iaload, 1) := by decide +kernel
theorem dX8_isStill_31 : decode cX8_isStill 31 = .ok (.aload_n 0, 1) := by decide +kernel
theorem dX8_isStill_32 : decode cX8_isStill 32 = .ok (.getfield 54, 3) := by decide +kernel
theorem dX8_isStill_35 : decode cX8_isStill 35 = .ok (.bipush 6, 2) := by decide +kernel
theorem dX8_isStill_37 : decode cX8_isStill 37 = .ok (.iload_n 1, 1) := by decide +kernel
theorem dX8_isStill_38 : decode cX8_isStill 38 = .ok (.imul, 1) := by decide +kernel
theorem dX8_isStill_39 : decode cX8_isStill 39 = .ok (.iload_n 3, 1) := by decide +kernel
theorem dX8_isStill_40 : decode cX8_isStill 40 = .ok (.iadd, 1) := by decide +kernel
theorem dX8_isStill_41 : decode cX8_isStill 41 = .ok (.iaload, 1) := by decide +kernel
theorem dX8_isStill_42 : decode cX8_isStill 42 = .ok (.if_icmp .lt 7, 3) := by decide +kernel
theorem dX8_isStill_45 : decode cX8_isStill 45 = .ok (.iconst 1, 1) := by decide +kernel
theorem dX8_isStill_46 : decode cX8_isStill 46 = .ok (.goto 4, 3) := by decide +kernel
theorem dX8_isStill_49 : decode cX8_isStill 49 = .ok (.iconst 0, 1) := by decide +kernel
theorem dX8_isStill_50 : decode cX8_isStill 50 = .ok (.istore_n 2, 1) := by decide +kernel
theorem dX8_isStill_51 : decode cX8_isStill 51 = .ok (.iinc 3 1, 3) := by decide +kernel
theorem dX8_isStill_54 : decode cX8_isStill 54 = .ok (.goto (-50), 3) := by decide +kernel
theorem dX8_isStill_57 : decode cX8_isStill 57 = .ok (.iload_n 2, 1) := by decide +kernel
theorem dX8_isStill_58 : decode cX8_isStill 58 = .ok (.ireturn, 1) := by decide +kernel
theorem dX8_still_0 : decode cX8_still 0 = .ok (.iload_n 1, 1) := by decide +kernel
theorem dX8_still_1 : decode cX8_still 1 = .ok (.iload_n 2, 1) := by decide +kernel
theorem dX8_still_2 : decode cX8_still 2 = .ok (.invokestatic 235, 3) := by decide +kernel
theorem dX8_still_5 : decode cX8_still 5 = .ok (.ifCond .eq 13, 3) := by decide +kernel
theorem dX8_still_8 : decode cX8_still 8 = .ok (.iload_n 3, 1) := by decide +kernel
theorem dX8_still_9 : decode cX8_still 9 = .ok (.i2l, 1) := by decide +kernel
theorem dX8_still_10 : decode cX8_still 10 = .ok (.lconst 0, 1) := by decide +kernel
theorem dX8_still_11 : decode cX8_still 11 = .ok (.lconst 1, 1) := by decide +kernel
theorem dX8_still_12 : decode cX8_still 12 = .ok (.invokestatic 70, 3) := by decide +kernel
theorem dX8_still_15 : decode cX8_still 15 = .ok (.ifCond .ne 6, 3) := by decide +kernel
theorem dX8_still_18 : decode cX8_still 18 = .ok (.bipush (-3), 2) := by decide +kernel
theorem dX8_still_20 : decode cX8_still 20 = .ok (.ireturn, 1) := by decide +kernel
theorem dX8_still_21 : decode cX8_still 21 = .ok (.aload_n 0, 1) := by decide +kernel
theorem dX8_still_22 : decode cX8_still 22 = .ok (.invokevirtual 243, 3) := by decide +kernel
theorem dX8_still_25 : decode cX8_still 25 = .ok (.iconst 0, 1) := by decide +kernel
theorem dX8_still_26 : decode cX8_still 26 = .ok (.istore 4, 2) := by decide +kernel
theorem dX8_still_28 : decode cX8_still 28 = .ok (.iload 4, 2) := by decide +kernel
theorem dX8_still_30 : decode cX8_still 30 = .ok (.iconst 1, 1) := by decide +kernel
theorem dX8_still_31 : decode cX8_still 31 = .ok (.aload_n 0, 1) := by decide +kernel
theorem dX8_still_32 : decode cX8_still 32 = .ok (.getfield 74, 3) := by decide +kernel
theorem dX8_still_35 : decode cX8_still 35 = .ok (.ishl, 1) := by decide +kernel
theorem dX8_still_36 : decode cX8_still 36 = .ok (.if_icmp .ge 17, 3) := by decide +kernel
theorem dX8_still_39 : decode cX8_still 39 = .ok (.aload_n 0, 1) := by decide +kernel
theorem dX8_still_40 : decode cX8_still 40 = .ok (.iload 4, 2) := by decide +kernel
theorem dX8_still_42 : decode cX8_still 42 = .ok (.iload_n 1, 1) := by decide +kernel
theorem dX8_still_43 : decode cX8_still 43 = .ok (.iload_n 2, 1) := by decide +kernel
theorem dX8_still_44 : decode cX8_still 44 = .ok (.invokevirtual 246, 3) := by decide +kernel
theorem dX8_still_47 : decode cX8_still 47 = .ok (.iinc 4 1, 3) := by decide +kernel
theorem dX8_still_50 : decode cX8_still 50 = .ok (.goto (-22), 3) := by decide +kernel
theorem dX8_still_53 : decode cX8_still 53 = .ok (.aload_n 0, 1) := by decide +kernel
theorem dX8_still_54 : decode cX8_still 54 = .ok (.invokevirtual 250, 3) := by decide +kernel
theorem dX8_still_57 : decode cX8_still 57 = .ok (.iconst 0, 1) := by decide +kernel
theorem dX8_still_58 : decode cX8_still 58 = .ok (.istore 4, 2) := by decide +kernel
theorem dX8_still_60 : decode cX8_still 60 = .ok (.iconst (-1), 1) := by decide +kernel
theorem dX8_still_61 : decode cX8_still 61 = .ok (.istore 5, 2) := by decide +kernel
theorem dX8_still_63 : decode cX8_still 63 = .ok (.iconst 0, 1) := by decide +kernel
theorem dX8_still_64 : decode cX8_still 64 = .ok (.istore 6, 2) := by decide +kernel
theorem dX8_still_66 : decode cX8_still 66 = .ok (.iload 6, 2) := by decide +kernel
theorem dX8_still_68 : decode cX8_still 68 = .ok (.iconst 1, 1) := by decide +kernel
theorem dX8_still_69 : decode cX8_still 69 = .ok (.aload_n 0, 1) := by decide +kernel
theorem dX8_still_70 : decode cX8_still 70 = .ok (.getfield 74, 3) := by decide +kernel
theorem dX8_still_73 : decode cX8_still 73 = .ok (.ishl, 1) := by decide +kernel
theorem dX8_still_74 : decode cX8_still 74 = .ok (.if_icmp .ge 51, 3) := by decide +kernel
theorem dX8_still_77 : decode cX8_still 77 = .ok (.iload 4, 2) := by decide +kernel
theorem dX8_still_79 : decode cX8_still 79 = .ok (.ifCond .ne 17, 3) := by decide +kernel
theorem dX8_still_82 : decode cX8_still 82 = .ok (.aload_n 0, 1) := by decide +kernel
theorem dX8_still_83 : decode cX8_still 83 = .ok (.iload 6, 2) := by decide +kernel
theorem dX8_still_85 : decode cX8_still 85 = .ok (.invokevirtual 253, 3) := by decide +kernel
theorem dX8_still_88 : decode cX8_still 88 = .ok (.ifCond .eq 8, 3) := by decide +kernel
theorem dX8_still_91 : decode cX8_still 91 = .ok (.iload 6, 2) := by decide +kernel
theorem dX8_still_93 : decode cX8_still 93 = .ok (.goto 5, 3) := by decide +kernel
theorem dX8_still_96 : decode cX8_still 96 = .ok (.iload 5, 2) := by decide +kernel
theorem dX8_still_98 : decode cX8_still 98 = .ok (.istore 5, 2) := by decide +kernel
theorem dX8_still_100 : decode cX8_still 100 = .ok (.iload 4, 2) := by decide +kernel
theorem dX8_still_102 : decode cX8_still 102 = .ok (.aload_n 0, 1) := by decide +kernel
theorem dX8_still_103 : decode cX8_still 103 = .ok (.iload 6, 2) := by decide +kernel
theorem dX8_still_105 : decode cX8_still 105 = .ok (.invokevirtual 253, 3) := by decide +kernel
theorem dX8_still_108 : decode cX8_still 108 = .ok (.ifCond .eq 7, 3) := by decide +kernel
theorem dX8_still_111 : decode cX8_still 111 = .ok (.iconst 1, 1) := by decide +kernel
theorem dX8_still_112 : decode cX8_still 112 = .ok (.goto 4, 3) := by decide +kernel
theorem dX8_still_115 : decode cX8_still 115 = .ok (.iconst 0, 1) := by decide +kernel
theorem dX8_still_116 : decode cX8_still 116 = .ok (.iadd, 1) := by decide +kernel
theorem dX8_still_117 : decode cX8_still 117 = .ok (.istore 4, 2) := by decide +kernel
theorem dX8_still_119 : decode cX8_still 119 = .ok (.iinc 6 1, 3) := by decide +kernel
theorem dX8_still_122 : decode cX8_still 122 = .ok (.goto (-56), 3) := by decide +kernel
theorem dX8_still_125 : decode cX8_still 125 = .ok (.iload_n 3, 1) := by decide +kernel
theorem dX8_still_126 : decode cX8_still 126 = .ok (.ifCond .ne 8, 3) := by decide +kernel
theorem dX8_still_129 : decode cX8_still 129 = .ok (.iload 4, 2) := by decide +kernel
theorem dX8_still_131 : decode cX8_still 131 = .ok (.goto 5, 3) := by decide +kernel
theorem dX8_still_134 : decode cX8_still 134 = .ok (.iload 5, 2) := by decide +kernel
theorem dX8_still_136 : decode cX8_still 136 = .ok (.ireturn, 1) := by decide +kernel
theorem dX8_plot_0 : decode cX8_plot 0 = .ok (.aload_n 0, 1) := by decide +kernel
theorem dX8_plot_1 : decode cX8_plot 1 = .ok (.iload_n 1, 1) := by decide +kernel
theorem dX8_plot_2 : decode cX8_plot 2 = .ok (.invokevirtual 173, 3) := by decide +kernel
theorem dX8_plot_5 : decode cX8_plot 5 = .ok (.ifCond .eq 25, 3) := by decide +kernel
theorem dX8_plot_8 : decode cX8_plot 8 = .ok (.iload_n 2, 1) := by decide +kernel
theorem dX8_plot_9 : decode cX8_plot 9 = .ok (.i2l, 1) := by decide +kernel
theorem dX8_plot_10 : decode cX8_plot 10 = .ok (.lconst 0, 1) := by decide +kernel
theorem dX8_plot_11 : decode cX8_plot 11 = .ok (.aload_n 0, 1) := by decide +kernel
theorem dX8_plot_12 : decode cX8_plot 12 = .ok (.invokevirtual 213, 3) := by decide +kernel
theorem dX8_plot_15 : decode cX8_plot 15 = .ok (.i2l, 1) := by decide +kernel
theorem dX8_plot_16 : decode cX8_plot 16 = .ok (.invokestatic 70, 3) := by decide +kernel
theorem dX8_plot_19 : decode cX8_plot 19 = .ok (.ifCond .eq 11, 3) := by decide +kernel
theorem dX8_plot_22 : decode cX8_plot 22 = .ok (.iload_n 2, 1) := by decide +kernel
theorem dX8_plot_23 : decode cX8_plot 23 = .ok (.iload_n 1, 1) := by decide +kernel
theorem dX8_plot_24 : decode cX8_plot 24 = .ok (.invokestatic 130, 3) := by decide +kernel
theorem dX8_plot_27 : decode cX8_plot 27 = .ok (.ifCond .eq 6, 3) := by decide +kernel
theorem dX8_plot_30 : decode cX8_plot 30 = .ok (.bipush (-2), 2) := by decide +kernel
theorem dX8_plot_32 : decode cX8_plot 32 = .ok (.ireturn, 1) := by decide +kernel
theorem dX8_plot_33 : decode cX8_plot 33 = .ok (.iload_n 3, 1) := by decide +kernel
theorem dX8_plot_34 : decode cX8_plot 34 = .ok (.invokestatic 229, 3) := by decide +kernel
theorem dX8_plot_37 : decode cX8_plot 37 = .ok (.ifCond .eq 14, 3) := by decide +kernel
theorem dX8_plot_40 : decode cX8_plot 40 = .ok (.iload 4, 2) := by decide +kernel
theorem dX8_plot_42 : decode cX8_plot 42 = .ok (.i2l, 1) := by decide +kernel
theorem dX8_plot_43 : decode cX8_plot 43 = .ok (.lconst 0, 1) := by decide +kernel
theorem dX8_plot_44 : decode cX8_plot 44 = .ok (.lconst 1, 1) := by decide +kernel
theorem dX8_plot_45 : decode cX8_plot 45 = .ok (.invokestatic 70, 3) := by decide +kernel
theorem dX8_plot_48 : decode cX8_plot 48 = .ok (.ifCond .ne 6, 3) := by decide +kernel
theorem dX8_plot_51 : decode cX8_plot 51 = .ok (.bipush (-3), 2) := by decide +kernel
theorem dX8_plot_53 : decode cX8_plot 53 = .ok (.ireturn, 1) := by decide +kernel
theorem dX8_plot_54 : decode cX8_plot 54 = .ok (.iconst (-1), 1) := by decide +kernel
theorem dX8_plot_55 : decode cX8_plot 55 = .ok (.istore 5, 2) := by decide +kernel
theorem dX8_plot_57 : decode cX8_plot 57 = .ok (.aload_n 0, 1) := by decide +kernel
theorem dX8_plot_58 : decode cX8_plot 58 = .ok (.invokevirtual 243, 3) := by decide +kernel
theorem dX8_plot_61 : decode cX8_plot 61 = .ok (.iconst 0, 1) := by decide +kernel
theorem dX8_plot_62 : decode cX8_plot 62 = .ok (.istore 6, 2) := by decide +kernel
theorem dX8_plot_64 : decode cX8_plot 64 = .ok (.iload 6, 2) := by decide +kernel
theorem dX8_plot_66 : decode cX8_plot 66 = .ok (.iload_n 2, 1) := by decide +kernel
theorem dX8_plot_67 : decode cX8_plot 67 = .ok (.if_icmp .gt 104, 3) := by decide +kernel
theorem dX8_plot_70 : decode cX8_plot 70 = .ok (.iload 6, 2) := by decide +kernel
theorem dX8_plot_72 : decode cX8_plot 72 = .ok (.iload_n 2, 1) := by decide +kernel
theorem dX8_plot_73 : decode cX8_plot 73 = .ok (.iconst (-1), 1) := by decide +kernel
theorem dX8_plot_74 : decode cX8_plot 74 = .ok (.ixor, 1) := by decide +kernel
theorem dX8_plot_75 : decode cX8_plot 75 = .ok (.iand, 1) := by decide +kernel
theorem dX8_plot_76 : decode cX8_plot 76 = .ok (.ifCond .ne 89, 3) := by decide +kernel
theorem dX8_plot_79 : decode cX8_plot 79 = .ok (.iload 5, 2) := by decide +kernel
theorem dX8_plot_81 : decode cX8_plot 81 = .ok (.iconst (-1), 1) := by decide +kernel
theorem dX8_plot_82 : decode cX8_plot 82 = .ok (.if_icmp .eq 16, 3) := by decide +kernel
theorem dX8_plot_85 : decode cX8_plot 85 = .ok (.iload 6, 2) := by decide +kernel
theorem dX8_plot_87 : decode cX8_plot 87 = .ok (.invokestatic 219, 3) := by decide +kernel
theorem dX8_plot_90 : decode cX8_plot 90 = .ok (.iload 5, 2) := by decide +kernel
theorem dX8_plot_92 : decode cX8_plot 92 = .ok (.invokestatic 219, 3) := by decide +kernel
theorem dX8_plot_95 : decode cX8_plot 95 = .ok (.if_icmp .ge 70, 3) := by decide +kernel
theorem dX8_plot_98 : decode cX8_plot 98 = .ok (.iconst 0, 1) := by decide +kernel
theorem dX8_plot_99 : decode cX8_plot 99 = .ok (.istore 7, 2) := by decide +kernel
theorem dX8_plot_101 : decode cX8_plot 101 = .ok (.iload 7, 2) := by decide +kernel
theorem dX8_plot_103 : decode cX8_plot 103 = .ok (.aload_n 0, 1) := by decide +kernel
theorem dX8_plot_104 : decode cX8_plot 104 = .ok (.getfield 74, 3) := by decide +kernel
theorem dX8_plot_107 : decode cX8_plot 107 = .ok (.if_icmp .ge 37, 3) := by decide +kernel
theorem dX8_plot_110 : decode cX8_plot 110 = .ok (.aload_n 0, 1) := by decide +kernel
theorem dX8_plot_111 : decode cX8_plot 111 = .ok (.getfield 33, 3) := by decide +kernel
theorem dX8_plot_114 : decode cX8_plot 114 = .ok (.iload 7, 2) := by decide +kernel
theorem dX8_plot_116 : decode cX8_plot 116 = .ok (.iload 6, 2) := by decide +kernel
theorem dX8_plot_118 : decode cX8_plot 118 = .ok (.iload 7, 2) := by decide +kernel
theorem dX8_plot_120 : decode cX8_plot 120 = .ok (.invokestatic 130, 3) := by decide +kernel
theorem dX8_plot_123 : decode cX8_plot 123 = .ok (.ifCond .eq 7, 3) := by decide +kernel
theorem dX8_plot_126 : decode cX8_plot 126 = .ok (.iconst 0, 1) := by decide +kernel
theorem dX8_plot_127 : decode cX8_plot 127 = .ok (.goto 10, 3) := by decide +kernel
theorem dX8_plot_130 : decode cX8_plot 130 = .ok (.aload_n 0, 1) := by decide +kernel
theorem dX8_plot_131 : decode cX8_plot 131 = .ok (.getfield 51, 3) := by decide +kernel
theorem dX8_plot_134 : decode cX8_plot 134 = .ok (.iload 7, 2) := by decide +kernel
theorem dX8_plot_136 : decode cX8_plot 136 = .ok (.iaload, 1) := by decide +kernel
theorem dX8_plot_137 : decode cX8_plot 137 = .ok (.iastore, 1) := by decide +kernel
theorem dX8_plot_138 : decode cX8_plot 138 = .ok (.iinc 7 1, 3) := by decide +kernel
theorem dX8_plot_141 : decode cX8_plot 141 = .ok (.goto (-40), 3) := by decide +kernel
theorem dX8_plot_144 : decode cX8_plot 144 = .ok (.aload_n 0, 1) := by decide +kernel
theorem dX8_plot_145 : decode cX8_plot 145 = .ok (.iload_n 3, 1) := by decide +kernel
theorem dX8_plot_146 : decode cX8_plot 146 = .ok (.invokevirtual 232, 3) := by decide +kernel
theorem dX8_plot_149 : decode cX8_plot 149 = .ok (.iload_n 1, 1) := by decide +kernel
theorem dX8_plot_150 : decode cX8_plot 150 = .ok (.invokestatic 130, 3) := by decide +kernel
theorem dX8_plot_153 : decode cX8_plot 153 = .ok (.ifCond .eq 8, 3) := by decide +kernel
theorem dX8_plot_156 : decode cX8_plot 156 = .ok (.iload 6, 2) := by decide +kernel
theorem dX8_plot_158 : decode cX8_plot 158 = .ok (.goto 5, 3) := by decide +kernel
theorem dX8_plot_161 : decode cX8_plot 161 = .ok (.iload 5, 2) := by decide +kernel
theorem dX8_plot_163 : decode cX8_plot 163 = .ok (.istore 5, 2) := by decide +kernel
theorem dX8_plot_165 : decode cX8_plot 165 = .ok (.iinc 6 1, 3) := by decide +kernel
theorem dX8_plot_168 : decode cX8_plot 168 = .ok (.goto (-104), 3) := by decide +kernel
theorem dX8_plot_171 : decode cX8_plot 171 = .ok (.aload_n 0, 1) := by decide +kernel
theorem dX8_plot_172 : decode cX8_plot 172 = .ok (.invokevirtual 250, 3) := by decide +kernel
theorem dX8_plot_175 : decode cX8_plot 175 = .ok (.iload 5, 2) := by decide +kernel
theorem dX8_plot_177 : decode cX8_plot 177 = .ok (.iconst (-1), 1) := by decide +kernel
theorem dX8_plot_178 : decode cX8_plot 178 = .ok (.if_icmp .ne 7, 3) := by decide +kernel
theorem dX8_plot_181 : decode cX8_plot 181 = .ok (.iconst (-1), 1) := by decide +kernel
theorem dX8_plot_182 : decode cX8_plot 182 = .ok (.goto 18, 3) := by decide +kernel
theorem dX8_plot_185 : decode cX8_plot 185 = .ok (.iload 4, 2) := by decide +kernel
theorem dX8_plot_187 : decode cX8_plot 187 = .ok (.ifCond .ne 11, 3) := by decide +kernel
theorem dX8_plot_190 : decode cX8_plot 190 = .ok (.iload 5, 2) := by decide +kernel
theorem dX8_plot_192 : decode cX8_plot 192 = .ok (.invokestatic 219, 3) := by decide +kernel
theorem dX8_plot_195 : decode cX8_plot 195 = .ok (.goto 5, 3) := by decide +kernel
theorem dX8_plot_198 : decode cX8_plot 198 = .ok (.iload 5, 2) := by decide +kernel
theorem dX8_plot_200 : decode cX8_plot 200 = .ok (.ireturn, 1) := by decide +kernel
theorem dX8_price_0 : decode cX8_price 0 = .ok (.iload_n 1, 1) := by decide +kernel
theorem dX8_price_1 : decode cX8_price 1 = .ok (.invokestatic 229, 3) := by decide +kernel
theorem dX8_price_4 : decode cX8_price 4 = .ok (.ifCond .ne 6, 3) := by decide +kernel
theorem dX8_price_7 : decode cX8_price 7 = .ok (.bipush (-3), 2) := by decide +kernel
theorem dX8_price_9 : decode cX8_price 9 = .ok (.ireturn, 1) := by decide +kernel
theorem dX8_price_10 : decode cX8_price 10 = .ok (.aload_n 0, 1) := by decide +kernel
theorem dX8_price_11 : decode cX8_price 11 = .ok (.iload_n 1, 1) := by decide +kernel
theorem dX8_price_12 : decode cX8_price 12 = .ok (.invokevirtual 232, 3) := by decide +kernel
theorem dX8_price_15 : decode cX8_price 15 = .ok (.istore_n 2, 1) := by decide +kernel
theorem dX8_price_16 : decode cX8_price 16 = .ok (.iconst 0, 1) := by decide +kernel
theorem dX8_price_17 : decode cX8_price 17 = .ok (.istore_n 3, 1) := by decide +kernel
theorem dX8_price_18 : decode cX8_price 18 = .ok (.iconst 0, 1) := by decide +kernel
theorem dX8_price_19 : decode cX8_price 19 = .ok (.istore 4, 2) := by decide +kernel
theorem dX8_price_21 : decode cX8_price 21 = .ok (.iconst 0, 1) := by decide +kernel
theorem dX8_price_22 : decode cX8_price 22 = .ok (.istore 5, 2) := by decide +kernel
theorem dX8_price_24 : decode cX8_price 24 = .ok (.iload 5, 2) := by decide +kernel
theorem dX8_price_26 : decode cX8_price 26 = .ok (.aload_n 0, 1) := by decide +kernel
theorem dX8_price_27 : decode cX8_price 27 = .ok (.getfield 74, 3) := by decide +kernel
theorem dX8_price_30 : decode cX8_price 30 = .ok (.if_icmp .ge 65, 3) := by decide +kernel
theorem dX8_price_33 : decode cX8_price 33 = .ok (.iload_n 3, 1) := by decide +kernel
theorem dX8_price_34 : decode cX8_price 34 = .ok (.ifCond .ne 14, 3) := by decide +kernel
theorem dX8_price_37 : decode cX8_price 37 = .ok (.aload_n 0, 1) := by decide +kernel
theorem dX8_price_38 : decode cX8_price 38 = .ok (.getfield 48, 3) := by decide +kernel
theorem dX8_price_41 : decode cX8_price 41 = .ok (.iload 5, 2) := by decide +kernel
theorem dX8_price_43 : decode cX8_price 43 = .ok (.iaload, 1) := by decide +kernel
theorem dX8_price_44 : decode cX8_price 44 = .ok (.iconst (-1), 1) := by decide +kernel
theorem dX8_price_45 : decode cX8_price 45 = .ok (.if_icmp .eq 7, 3) := by decide +kernel
theorem dX8_price_48 : decode cX8_price 48 = .ok (.iconst 1, 1) := by decide +kernel
theorem dX8_price_49 : decode cX8_price 49 = .ok (.goto 4, 3) := by decide +kernel
theorem dX8_price_52 : decode cX8_price 52 = .ok (.iconst 0, 1) := by decide +kernel
theorem dX8_price_53 : decode cX8_price 53 = .ok (.istore_n 3, 1) := by decide +kernel
theorem dX8_price_54 : decode cX8_price 54 = .ok (.iload_n 2, 1) := by decide +kernel
theorem dX8_price_55 : decode cX8_price 55 = .ok (.iload 5, 2) := by decide +kernel
theorem dX8_price_57 : decode cX8_price 57 = .ok (.invokestatic 130, 3) := by decide +kernel
theorem dX8_price_60 : decode cX8_price 60 = .ok (.ifCond .eq 25, 3) := by decide +kernel
theorem dX8_price_63 : decode cX8_price 63 = .ok (.aload_n 0, 1) := by decide +kernel
theorem dX8_price_64 : decode cX8_price 64 = .ok (.getfield 39, 3) := by decide +kernel
theorem dX8_price_67 : decode cX8_price 67 = .ok (.iload 5, 2) := by decide +kernel
theorem dX8_price_69 : decode cX8_price 69 = .ok (.iaload, 1) := by decide +kernel
theorem dX8_price_70 : decode cX8_price 70 = .ok (.iload 4, 2) := by decide +kernel
theorem dX8_price_72 : decode cX8_price 72 = .ok (.if_icmp .le 13, 3) := by decide +kernel
theorem dX8_price_75 : decode cX8_price 75 = .ok (.aload_n 0, 1) := by decide +kernel
theorem dX8_price_76 : decode cX8_price 76 = .ok (.getfield 39, 3) := by decide +kernel
theorem dX8_price_79 : decode cX8_price 79 = .ok (.iload 5, 2) := by decide +kernel
theorem dX8_price_81 : decode cX8_price 81 = .ok (.iaload, 1) := by decide +kernel
theorem dX8_price_82 : decode cX8_price 82 = .ok (.goto 5, 3) := by decide +kernel
theorem dX8_price_85 : decode cX8_price 85 = .ok (.iload 4, 2) := by decide +kernel
theorem dX8_price_87 : decode cX8_price 87 = .ok (.istore 4, 2) := by decide +kernel
theorem dX8_price_89 : decode cX8_price 89 = .ok (.iinc 5 1, 3) := by decide +kernel
theorem dX8_price_92 : decode cX8_price 92 = .ok (.goto (-68), 3) := by decide +kernel
theorem dX8_price_95 : decode cX8_price 95 = .ok (.iload_n 3, 1) := by decide +kernel
theorem dX8_price_96 : decode cX8_price 96 = .ok (.ifCond .eq 8, 3) := by decide +kernel
theorem dX8_price_99 : decode cX8_price 99 = .ok (.iload 4, 2) := by decide +kernel
theorem dX8_price_101 : decode cX8_price 101 = .ok (.goto 4, 3) := by decide +kernel
theorem dX8_price_104 : decode cX8_price 104 = .ok (.iconst 0, 1) := by decide +kernel
theorem dX8_price_105 : decode cX8_price 105 = .ok (.ireturn, 1) := by decide +kernel
theorem dX8_apart_0 : decode cX8_apart 0 = .ok (.iconst 0, 1) := by decide +kernel
theorem dX8_apart_1 : decode cX8_apart 1 = .ok (.istore 4, 2) := by decide +kernel
theorem dX8_apart_3 : decode cX8_apart 3 = .ok (.iload 4, 2) := by decide +kernel
theorem dX8_apart_5 : decode cX8_apart 5 = .ok (.bipush 6, 2) := by decide +kernel
theorem dX8_apart_7 : decode cX8_apart 7 = .ok (.if_icmp .ge 17, 3) := by decide +kernel
theorem dX8_apart_10 : decode cX8_apart 10 = .ok (.aload_n 0, 1) := by decide +kernel
theorem dX8_apart_11 : decode cX8_apart 11 = .ok (.getfield 57, 3) := by decide +kernel
theorem dX8_apart_14 : decode cX8_apart 14 = .ok (.iload 4, 2) := by decide +kernel
theorem dX8_apart_16 : decode cX8_apart 16 = .ok (.iconst 0, 1) := by decide +kernel
theorem dX8_apart_17 : decode cX8_apart 17 = .ok (.iastore, 1) := by decide +kernel
theorem dX8_apart_18 : decode cX8_apart 18 = .ok (.iinc 4 1, 3) := by decide +kernel
theorem dX8_apart_21 : decode cX8_apart 21 = .ok (.goto (-18), 3) := by decide +kernel
theorem dX8_apart_24 : decode cX8_apart 24 = .ok (.iload_n 2, 1) := by decide +kernel
theorem dX8_apart_25 : decode cX8_apart 25 = .ok (.istore 4, 2) := by decide +kernel
theorem dX8_apart_27 : decode cX8_apart 27 = .ok (.iload 4, 2) := by decide +kernel
theorem dX8_apart_29 : decode cX8_apart 29 = .ok (.iload_n 3, 1) := by decide +kernel
theorem dX8_apart_30 : decode cX8_apart 30 = .ok (.if_icmp .gt 61, 3) := by decide +kernel
theorem dX8_apart_33 : decode cX8_apart 33 = .ok (.aload_n 0, 1) := by decide +kernel
theorem dX8_apart_34 : decode cX8_apart 34 = .ok (.iload 4, 2) := by decide +kernel
theorem dX8_apart_36 : decode cX8_apart 36 = .ok (.invokevirtual 226, 3) := by decide +kernel
theorem dX8_apart_39 : decode cX8_apart 39 = .ok (.aload_n 0, 1) := by decide +kernel
theorem dX8_apart_40 : decode cX8_apart 40 = .ok (.iload_n 1, 1) := by decide +kernel
theorem dX8_apart_41 : decode cX8_apart 41 = .ok (.aload_n 0, 1) := by decide +kernel
theorem dX8_apart_42 : decode cX8_apart 42 = .ok (.invokevirtual 213, 3) := by decide +kernel
theorem dX8_apart_45 : decode cX8_apart 45 = .ok (.invokevirtual 216, 3) := by decide +kernel
theorem dX8_apart_48 : decode cX8_apart 48 = .ok (.istore 5, 2) := by decide +kernel
theorem dX8_apart_50 : decode cX8_apart 50 = .ok (.iconst 0, 1) := by decide +kernel
theorem dX8_apart_51 : decode cX8_apart 51 = .ok (.istore 6, 2) := by decide +kernel
theorem dX8_apart_53 : decode cX8_apart 53 = .ok (.iload 6, 2) := by decide +kernel
theorem dX8_apart_55 : decode cX8_apart 55 = .ok (.aload_n 0, 1) := by decide +kernel
theorem dX8_apart_56 : decode cX8_apart 56 = .ok (.getfield 74, 3) := by decide +kernel
theorem dX8_apart_59 : decode cX8_apart 59 = .ok (.if_icmp .ge 26, 3) := by decide +kernel
theorem dX8_apart_62 : decode cX8_apart 62 = .ok (.aload_n 0, 1) := by decide +kernel
theorem dX8_apart_63 : decode cX8_apart 63 = .ok (.getfield 57, 3) := by decide +kernel
theorem dX8_apart_66 : decode cX8_apart 66 = .ok (.iload 6, 2) := by decide +kernel
theorem dX8_apart_68 : decode cX8_apart 68 = .ok (.dup2, 1) := by decide +kernel
theorem dX8_apart_69 : decode cX8_apart 69 = .ok (.iaload, 1) := by decide +kernel
theorem dX8_apart_70 : decode cX8_apart 70 = .ok (.iload 5, 2) := by decide +kernel
theorem dX8_apart_72 : decode cX8_apart 72 = .ok (.iload 6, 2) := by decide +kernel
theorem dX8_apart_74 : decode cX8_apart 74 = .ok (.ishr, 1) := by decide +kernel
theorem dX8_apart_75 : decode cX8_apart 75 = .ok (.iconst 1, 1) := by decide +kernel
theorem dX8_apart_76 : decode cX8_apart 76 = .ok (.iand, 1) := by decide +kernel
theorem dX8_apart_77 : decode cX8_apart 77 = .ok (.iadd, 1) := by decide +kernel
theorem dX8_apart_78 : decode cX8_apart 78 = .ok (.iastore, 1) := by decide +kernel
theorem dX8_apart_79 : decode cX8_apart 79 = .ok (.iinc 6 1, 3) := by decide +kernel
theorem dX8_apart_82 : decode cX8_apart 82 = .ok (.goto (-29), 3) := by decide +kernel
theorem dX8_apart_85 : decode cX8_apart 85 = .ok (.iinc 4 1, 3) := by decide +kernel
theorem dX8_apart_88 : decode cX8_apart 88 = .ok (.goto (-61), 3) := by decide +kernel
theorem dX8_apart_91 : decode cX8_apart 91 = .ok (.sipush 999, 3) := by decide +kernel
theorem dX8_apart_94 : decode cX8_apart 94 = .ok (.istore 4, 2) := by decide +kernel
theorem dX8_apart_96 : decode cX8_apart 96 = .ok (.iconst 0, 1) := by decide +kernel
theorem dX8_apart_97 : decode cX8_apart 97 = .ok (.istore 5, 2) := by decide +kernel
theorem dX8_apart_99 : decode cX8_apart 99 = .ok (.iconst 0, 1) := by decide +kernel
theorem dX8_apart_100 : decode cX8_apart 100 = .ok (.istore 6, 2) := by decide +kernel
theorem dX8_apart_102 : decode cX8_apart 102 = .ok (.iload 6, 2) := by decide +kernel
theorem dX8_apart_104 : decode cX8_apart 104 = .ok (.aload_n 0, 1) := by decide +kernel
theorem dX8_apart_105 : decode cX8_apart 105 = .ok (.getfield 74, 3) := by decide +kernel
theorem dX8_apart_108 : decode cX8_apart 108 = .ok (.if_icmp .ge 61, 3) := by decide +kernel
theorem dX8_apart_111 : decode cX8_apart 111 = .ok (.aload_n 0, 1) := by decide +kernel
theorem dX8_apart_112 : decode cX8_apart 112 = .ok (.getfield 57, 3) := by decide +kernel
theorem dX8_apart_115 : decode cX8_apart 115 = .ok (.iload 6, 2) := by decide +kernel
theorem dX8_apart_117 : decode cX8_apart 117 = .ok (.iaload, 1) := by decide +kernel
theorem dX8_apart_118 : decode cX8_apart 118 = .ok (.iload 4, 2) := by decide +kernel
theorem dX8_apart_120 : decode cX8_apart 120 = .ok (.if_icmp .ge 13, 3) := by decide +kernel
theorem dX8_apart_123 : decode cX8_apart 123 = .ok (.aload_n 0, 1) := by decide +kernel
theorem dX8_apart_124 : decode cX8_apart 124 = .ok (.getfield 57, 3) := by decide +kernel
theorem dX8_apart_127 : decode cX8_apart 127 = .ok (.iload 6, 2) := by decide +kernel
theorem dX8_apart_129 : decode cX8_apart 129 = .ok (.iaload, 1) := by decide +kernel
theorem dX8_apart_130 : decode cX8_apart 130 = .ok (.goto 5, 3) := by decide +kernel
theorem dX8_apart_133 : decode cX8_apart 133 = .ok (.iload 4, 2) := by decide +kernel
theorem dX8_apart_135 : decode cX8_apart 135 = .ok (.istore 4, 2) := by decide +kernel
theorem dX8_apart_137 : decode cX8_apart 137 = .ok (.aload_n 0, 1) := by decide +kernel
theorem dX8_apart_138 : decode cX8_apart 138 = .ok (.getfield 57, 3) := by decide +kernel
theorem dX8_apart_141 : decode cX8_apart 141 = .ok (.iload 6, 2) := by decide +kernel
theorem dX8_apart_143 : decode cX8_apart 143 = .ok (.iaload, 1) := by decide +kernel
theorem dX8_apart_144 : decode cX8_apart 144 = .ok (.iload 5, 2) := by decide +kernel
theorem dX8_apart_146 : decode cX8_apart 146 = .ok (.if_icmp .le 13, 3) := by decide +kernel
theorem dX8_apart_149 : decode cX8_apart 149 = .ok (.aload_n 0, 1) := by decide +kernel
theorem dX8_apart_150 : decode cX8_apart 150 = .ok (.getfield 57, 3) := by decide +kernel
theorem dX8_apart_153 : decode cX8_apart 153 = .ok (.iload 6, 2) := by decide +kernel
theorem dX8_apart_155 : decode cX8_apart 155 = .ok (.iaload, 1) := by decide +kernel
theorem dX8_apart_156 : decode cX8_apart 156 = .ok (.goto 5, 3) := by decide +kernel
theorem dX8_apart_159 : decode cX8_apart 159 = .ok (.iload 5, 2) := by decide +kernel
theorem dX8_apart_161 : decode cX8_apart 161 = .ok (.istore 5, 2) := by decide +kernel
theorem dX8_apart_163 : decode cX8_apart 163 = .ok (.iinc 6 1, 3) := by decide +kernel
theorem dX8_apart_166 : decode cX8_apart 166 = .ok (.goto (-64), 3) := by decide +kernel
theorem dX8_apart_169 : decode cX8_apart 169 = .ok (.aload_n 0, 1) := by decide +kernel
theorem dX8_apart_170 : decode cX8_apart 170 = .ok (.getfield 74, 3) := by decide +kernel
theorem dX8_apart_173 : decode cX8_apart 173 = .ok (.ifCond .ne 7, 3) := by decide +kernel
theorem dX8_apart_176 : decode cX8_apart 176 = .ok (.iconst 0, 1) := by decide +kernel
theorem dX8_apart_177 : decode cX8_apart 177 = .ok (.goto 8, 3) := by decide +kernel
theorem dX8_apart_180 : decode cX8_apart 180 = .ok (.iload 5, 2) := by decide +kernel
theorem dX8_apart_182 : decode cX8_apart 182 = .ok (.iload 4, 2) := by decide +kernel
theorem dX8_apart_184 : decode cX8_apart 184 = .ok (.isub, 1) := by decide +kernel
theorem dX8_apart_185 : decode cX8_apart 185 = .ok (.ireturn, 1) := by decide +kernel
theorem dX8_laid_0 : decode cX8_laid 0 = .ok (.iload_n 1, 1) := by decide +kernel
theorem dX8_laid_1 : decode cX8_laid 1 = .ok (.i2l, 1) := by decide +kernel
theorem dX8_laid_2 : decode cX8_laid 2 = .ok (.lconst 0, 1) := by decide +kernel
theorem dX8_laid_3 : decode cX8_laid 3 = .ok (.aload_n 0, 1) := by decide +kernel
theorem dX8_laid_4 : decode cX8_laid 4 = .ok (.getfield 23, 3) := by decide +kernel
theorem dX8_laid_7 : decode cX8_laid 7 = .ok (.i2l, 1) := by decide +kernel
theorem dX8_laid_8 : decode cX8_laid 8 = .ok (.invokestatic 70, 3) := by decide +kernel
theorem dX8_laid_11 : decode cX8_laid 11 = .ok (.ifCond .eq 22, 3) := by decide +kernel
theorem dX8_laid_14 : decode cX8_laid 14 = .ok (.iload_n 2, 1) := by decide +kernel
theorem dX8_laid_15 : decode cX8_laid 15 = .ok (.iload_n 3, 1) := by decide +kernel
theorem dX8_laid_16 : decode cX8_laid 16 = .ok (.invokestatic 235, 3) := by decide +kernel
theorem dX8_laid_19 : decode cX8_laid 19 = .ok (.ifCond .eq 14, 3) := by decide +kernel
theorem dX8_laid_22 : decode cX8_laid 22 = .ok (.iload 4, 2) := by decide +kernel
theorem dX8_laid_24 : decode cX8_laid 24 = .ok (.i2l, 1) := by decide +kernel
theorem dX8_laid_25 : decode cX8_laid 25 = .ok (.lconst 0, 1) := by decide +kernel
theorem dX8_laid_26 : decode cX8_laid 26 = .ok (.lconst 1, 1) := by decide +kernel
theorem dX8_laid_27 : decode cX8_laid 27 = .ok (.invokestatic 70, 3) := by decide +kernel
theorem dX8_laid_30 : decode cX8_laid 30 = .ok (.ifCond .ne 6, 3) := by decide +kernel
theorem dX8_laid_33 : decode cX8_laid 33 = .ok (.bipush (-3), 2) := by decide +kernel
theorem dX8_laid_35 : decode cX8_laid 35 = .ok (.ireturn, 1) := by decide +kernel
theorem dX8_laid_36 : decode cX8_laid 36 = .ok (.iconst (-1), 1) := by decide +kernel
theorem dX8_laid_37 : decode cX8_laid 37 = .ok (.istore 5, 2) := by decide +kernel
theorem dX8_laid_39 : decode cX8_laid 39 = .ok (.sipush 999, 3) := by decide +kernel
theorem dX8_laid_42 : decode cX8_laid 42 = .ok (.istore 6, 2) := by decide +kernel
theorem dX8_laid_44 : decode cX8_laid 44 = .ok (.iconst 0, 1) := by decide +kernel
theorem dX8_laid_45 : decode cX8_laid 45 = .ok (.istore 7, 2) := by decide +kernel
theorem dX8_laid_47 : decode cX8_laid 47 = .ok (.iload 7, 2) := by decide +kernel
theorem dX8_laid_49 : decode cX8_laid 49 = .ok (.iconst 1, 1) := by decide +kernel
theorem dX8_laid_50 : decode cX8_laid 50 = .ok (.aload_n 0, 1) := by decide +kernel
theorem dX8_laid_51 : decode cX8_laid 51 = .ok (.getfield 23, 3) := by decide +kernel
theorem dX8_laid_54 : decode cX8_laid 54 = .ok (.ishl, 1) := by decide +kernel
theorem dX8_laid_55 : decode cX8_laid 55 = .ok (.if_icmp .ge 66, 3) := by decide +kernel
theorem dX8_laid_58 : decode cX8_laid 58 = .ok (.iload 7, 2) := by decide +kernel
theorem dX8_laid_60 : decode cX8_laid 60 = .ok (.invokestatic 219, 3) := by decide +kernel
theorem dX8_laid_63 : decode cX8_laid 63 = .ok (.iload_n 1, 1) := by decide +kernel
theorem dX8_laid_64 : decode cX8_laid 64 = .ok (.if_icmp .ne 14, 3) := by decide +kernel
theorem dX8_laid_67 : decode cX8_laid 67 = .ok (.aload_n 0, 1) := by decide +kernel
theorem dX8_laid_68 : decode cX8_laid 68 = .ok (.iload 7, 2) := by decide +kernel
theorem dX8_laid_70 : decode cX8_laid 70 = .ok (.iload_n 2, 1) := by decide +kernel
theorem dX8_laid_71 : decode cX8_laid 71 = .ok (.iload_n 3, 1) := by decide +kernel
theorem dX8_laid_72 : decode cX8_laid 72 = .ok (.invokevirtual 256, 3) := by decide +kernel
theorem dX8_laid_75 : decode cX8_laid 75 = .ok (.goto 6, 3) := by decide +kernel
theorem dX8_laid_78 : decode cX8_laid 78 = .ok (.sipush 999, 3) := by decide +kernel
theorem dX8_laid_81 : decode cX8_laid 81 = .ok (.istore 8, 2) := by decide +kernel
theorem dX8_laid_83 : decode cX8_laid 83 = .ok (.iload 8, 2) := by decide +kernel
theorem dX8_laid_85 : decode cX8_laid 85 = .ok (.iload 6, 2) := by decide +kernel
theorem dX8_laid_87 : decode cX8_laid 87 = .ok (.if_icmp .ge 8, 3) := by decide +kernel
theorem dX8_laid_90 : decode cX8_laid 90 = .ok (.iload 7, 2) := by decide +kernel
theorem dX8_laid_92 : decode cX8_laid 92 = .ok (.goto 5, 3) := by decide +kernel
theorem dX8_laid_95 : decode cX8_laid 95 = .ok (.iload 5, 2) := by decide +kernel
theorem dX8_laid_97 : decode cX8_laid 97 = .ok (.istore 5, 2) := by decide +kernel
theorem dX8_laid_99 : decode cX8_laid 99 = .ok (.iload 8, 2) := by decide +kernel
theorem dX8_laid_101 : decode cX8_laid 101 = .ok (.iload 6, 2) := by decide +kernel
theorem dX8_laid_103 : decode cX8_laid 103 = .ok (.if_icmp .ge 8, 3) := by decide +kernel
theorem dX8_laid_106 : decode cX8_laid 106 = .ok (.iload 8, 2) := by decide +kernel
theorem dX8_laid_108 : decode cX8_laid 108 = .ok (.goto 5, 3) := by decide +kernel
theorem dX8_laid_111 : decode cX8_laid 111 = .ok (.iload 6, 2) := by decide +kernel
theorem dX8_laid_113 : decode cX8_laid 113 = .ok (.istore 6, 2) := by decide +kernel
theorem dX8_laid_115 : decode cX8_laid 115 = .ok (.iinc 7 1, 3) := by decide +kernel
theorem dX8_laid_118 : decode cX8_laid 118 = .ok (.goto (-71), 3) := by decide +kernel
theorem dX8_laid_121 : decode cX8_laid 121 = .ok (.iload 4, 2) := by decide +kernel
theorem dX8_laid_123 : decode cX8_laid 123 = .ok (.ifCond .ne 8, 3) := by decide +kernel
theorem dX8_laid_126 : decode cX8_laid 126 = .ok (.iload 6, 2) := by decide +kernel
theorem dX8_laid_128 : decode cX8_laid 128 = .ok (.goto 5, 3) := by decide +kernel
theorem dX8_laid_131 : decode cX8_laid 131 = .ok (.iload 5, 2) := by decide +kernel
theorem dX8_laid_133 : decode cX8_laid 133 = .ok (.ireturn, 1) := by decide +kernel
theorem dX8_leastOf_0 : decode cX8_leastOf 0 = .ok (.iload_n 0, 1) := by decide +kernel
theorem dX8_leastOf_1 : decode cX8_leastOf 1 = .ok (.iload_n 0, 1) := by decide +kernel
theorem dX8_leastOf_2 : decode cX8_leastOf 2 = .ok (.ineg, 1) := by decide +kernel
theorem dX8_leastOf_3 : decode cX8_leastOf 3 = .ok (.iand, 1) := by decide +kernel
theorem dX8_leastOf_4 : decode cX8_leastOf 4 = .ok (.ireturn, 1) := by decide +kernel
theorem dX8_left_0 : decode cX8_left 0 = .ok (.iload_n 1, 1) := by decide +kernel
theorem dX8_left_1 : decode cX8_left 1 = .ok (.invokestatic 229, 3) := by decide +kernel
theorem dX8_left_4 : decode cX8_left 4 = .ok (.ifCond .eq 13, 3) := by decide +kernel
theorem dX8_left_7 : decode cX8_left 7 = .ok (.iload_n 2, 1) := by decide +kernel
theorem dX8_left_8 : decode cX8_left 8 = .ok (.i2l, 1) := by decide +kernel
theorem dX8_left_9 : decode cX8_left 9 = .ok (.lconst 0, 1) := by decide +kernel
theorem dX8_left_10 : decode cX8_left 10 = .ok (.lconst 1, 1) := by decide +kernel
theorem dX8_left_11 : decode cX8_left 11 = .ok (.invokestatic 70, 3) := by decide +kernel
theorem dX8_left_14 : decode cX8_left 14 = .ok (.ifCond .ne 6, 3) := by decide +kernel
theorem dX8_left_17 : decode cX8_left 17 = .ok (.bipush (-3), 2) := by decide +kernel
theorem dX8_left_19 : decode cX8_left 19 = .ok (.ireturn, 1) := by decide +kernel
theorem dX8_left_20 : decode cX8_left 20 = .ok (.aload_n 0, 1) := by decide +kernel
theorem dX8_left_21 : decode cX8_left 21 = .ok (.invokevirtual 213, 3) := by decide +kernel
theorem dX8_left_24 : decode cX8_left 24 = .ok (.istore_n 3, 1) := by decide +kernel
theorem dX8_left_25 : decode cX8_left 25 = .ok (.aload_n 0, 1) := by decide +kernel
theorem dX8_left_26 : decode cX8_left 26 = .ok (.getfield 154, 3) := by decide +kernel
theorem dX8_left_29 : decode cX8_left 29 = .ok (.istore 4, 2) := by decide +kernel
theorem dX8_left_31 : decode cX8_left 31 = .ok (.iconst 0, 1) := by decide +kernel
theorem dX8_left_32 : decode cX8_left 32 = .ok (.istore 5, 2) := by decide +kernel
theorem dX8_left_34 : decode cX8_left 34 = .ok (.iload_n 3, 1) := by decide +kernel
theorem dX8_left_35 : decode cX8_left 35 = .ok (.invokestatic 219, 3) := by decide +kernel
theorem dX8_left_38 : decode cX8_left 38 = .ok (.iconst 1, 1) := by decide +kernel
theorem dX8_left_39 : decode cX8_left 39 = .ok (.if_icmp .le 7, 3) := by decide +kernel
theorem dX8_left_42 : decode cX8_left 42 = .ok (.iconst 1, 1) := by decide +kernel
theorem dX8_left_43 : decode cX8_left 43 = .ok (.goto 4, 3) := by decide +kernel
theorem dX8_left_46 : decode cX8_left 46 = .ok (.iconst 0, 1) := by decide +kernel
theorem dX8_left_47 : decode cX8_left 47 = .ok (.istore 6, 2) := by decide +kernel
theorem dX8_left_49 : decode cX8_left 49 = .ok (.iload 6, 2) := by decide +kernel
theorem dX8_left_51 : decode cX8_left 51 = .ok (.ifCond .eq 62, 3) := by decide +kernel
theorem dX8_left_54 : decode cX8_left 54 = .ok (.aload_n 0, 1) := by decide +kernel
theorem dX8_left_55 : decode cX8_left 55 = .ok (.iload_n 1, 1) := by decide +kernel
theorem dX8_left_56 : decode cX8_left 56 = .ok (.invokevirtual 226, 3) := by decide +kernel
theorem dX8_left_59 : decode cX8_left 59 = .ok (.aload_n 0, 1) := by decide +kernel
theorem dX8_left_60 : decode cX8_left 60 = .ok (.iload 4, 2) := by decide +kernel
theorem dX8_left_62 : decode cX8_left 62 = .ok (.iload_n 3, 1) := by decide +kernel
theorem dX8_left_63 : decode cX8_left 63 = .ok (.invokevirtual 216, 3) := by decide +kernel
theorem dX8_left_66 : decode cX8_left 66 = .ok (.istore 7, 2) := by decide +kernel
theorem dX8_left_68 : decode cX8_left 68 = .ok (.iinc 5 1, 3) := by decide +kernel
theorem dX8_left_71 : decode cX8_left 71 = .ok (.iload_n 3, 1) := by decide +kernel
theorem dX8_left_72 : decode cX8_left 72 = .ok (.iload 7, 2) := by decide +kernel
theorem dX8_left_74 : decode cX8_left 74 = .ok (.iconst (-1), 1) := by decide +kernel
theorem dX8_left_75 : decode cX8_left 75 = .ok (.ixor, 1) := by decide +kernel
theorem dX8_left_76 : decode cX8_left 76 = .ok (.iand, 1) := by decide +kernel
theorem dX8_left_77 : decode cX8_left 77 = .ok (.istore_n 3, 1) := by decide +kernel
theorem dX8_left_78 : decode cX8_left 78 = .ok (.iload 4, 2) := by decide +kernel
theorem dX8_left_80 : decode cX8_left 80 = .ok (.iload 4, 2) := by decide +kernel
theorem dX8_left_82 : decode cX8_left 82 = .ok (.invokestatic 259, 3) := by decide +kernel
