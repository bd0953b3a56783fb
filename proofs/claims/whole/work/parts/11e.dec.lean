theorem dX8_tell_116 : decode cX8_tell 116 = .ok (.aload_n 0, 1) := by decide +kernel
theorem dX8_tell_117 : decode cX8_tell 117 = .ok (.getfield 74, 3) := by decide +kernel
theorem dX8_tell_120 : decode cX8_tell 120 = .ok (.iload_n 2, 1) := by decide +kernel
theorem dX8_tell_121 : decode cX8_tell 121 = .ok (.iastore, 1) := by decide +kernel
theorem dX8_tell_122 : decode cX8_tell 122 = .ok (.aload_n 0, 1) := by decide +kernel
theorem dX8_tell_123 : decode cX8_tell 123 = .ok (.getfield 33, 3) := by decide +kernel
theorem dX8_tell_126 : decode cX8_tell 126 = .ok (.aload_n 0, 1) := by decide +kernel
theorem dX8_tell_127 : decode cX8_tell 127 = .ok (.getfield 74, 3) := by decide +kernel
theorem dX8_tell_130 : decode cX8_tell 130 = .ok (.aload_n 0, 1) := by decide +kernel
theorem dX8_tell_131 : decode cX8_tell 131 = .ok (.getfield 20, 3) := by decide +kernel
theorem dX8_tell_134 : decode cX8_tell 134 = .ok (.iload_n 1, 1) := by decide +kernel
theorem dX8_tell_135 : decode cX8_tell 135 = .ok (.iconst 2, 1) := by decide +kernel
theorem dX8_tell_136 : decode cX8_tell 136 = .ok (.iadd, 1) := by decide +kernel
theorem dX8_tell_137 : decode cX8_tell 137 = .ok (.iaload, 1) := by decide +kernel
theorem dX8_tell_138 : decode cX8_tell 138 = .ok (.iastore, 1) := by decide +kernel
theorem dX8_tell_139 : decode cX8_tell 139 = .ok (.aload_n 0, 1) := by decide +kernel
theorem dX8_tell_140 : decode cX8_tell 140 = .ok (.getfield 36, 3) := by decide +kernel
theorem dX8_tell_143 : decode cX8_tell 143 = .ok (.aload_n 0, 1) := by decide +kernel
theorem dX8_tell_144 : decode cX8_tell 144 = .ok (.getfield 74, 3) := by decide +kernel
theorem dX8_tell_147 : decode cX8_tell 147 = .ok (.aload_n 0, 1) := by decide +kernel
theorem dX8_tell_148 : decode cX8_tell 148 = .ok (.getfield 20, 3) := by decide +kernel
theorem dX8_tell_151 : decode cX8_tell 151 = .ok (.iload_n 1, 1) := by decide +kernel
theorem dX8_tell_152 : decode cX8_tell 152 = .ok (.iconst 3, 1) := by decide +kernel
theorem dX8_tell_153 : decode cX8_tell 153 = .ok (.iadd, 1) := by decide +kernel
theorem dX8_tell_154 : decode cX8_tell 154 = .ok (.iaload, 1) := by decide +kernel
theorem dX8_tell_155 : decode cX8_tell 155 = .ok (.iastore, 1) := by decide +kernel
theorem dX8_tell_156 : decode cX8_tell 156 = .ok (.aload_n 0, 1) := by decide +kernel
theorem dX8_tell_157 : decode cX8_tell 157 = .ok (.getfield 39, 3) := by decide +kernel
theorem dX8_tell_160 : decode cX8_tell 160 = .ok (.aload_n 0, 1) := by decide +kernel
theorem dX8_tell_161 : decode cX8_tell 161 = .ok (.getfield 74, 3) := by decide +kernel
theorem dX8_tell_164 : decode cX8_tell 164 = .ok (.aload_n 0, 1) := by decide +kernel
theorem dX8_tell_165 : decode cX8_tell 165 = .ok (.getfield 20, 3) := by decide +kernel
theorem dX8_tell_168 : decode cX8_tell 168 = .ok (.iload_n 1, 1) := by decide +kernel
theorem dX8_tell_169 : decode cX8_tell 169 = .ok (.iconst 4, 1) := by decide +kernel
theorem dX8_tell_170 : decode cX8_tell 170 = .ok (.iadd, 1) := by decide +kernel
theorem dX8_tell_171 : decode cX8_tell 171 = .ok (.iaload, 1) := by decide +kernel
theorem dX8_tell_172 : decode cX8_tell 172 = .ok (.iastore, 1) := by decide +kernel
theorem dX8_tell_173 : decode cX8_tell 173 = .ok (.aload_n 0, 1) := by decide +kernel
theorem dX8_tell_174 : decode cX8_tell 174 = .ok (.dup, 1) := by decide +kernel
theorem dX8_tell_175 : decode cX8_tell 175 = .ok (.getfield 74, 3) := by decide +kernel
theorem dX8_tell_178 : decode cX8_tell 178 = .ok (.iconst 1, 1) := by decide +kernel
theorem dX8_tell_179 : decode cX8_tell 179 = .ok (.iadd, 1) := by decide +kernel
theorem dX8_tell_180 : decode cX8_tell 180 = .ok (.putfield 74, 3) := by decide +kernel
theorem dX8_tell_183 : decode cX8_tell 183 = .ok (.return_, 1) := by decide +kernel
theorem dX8_inn_0 : decode cX8_inn 0 = .ok (.aload_n 0, 1) := by decide +kernel
theorem dX8_inn_1 : decode cX8_inn 1 = .ok (.invokevirtual 160, 3) := by decide +kernel
theorem dX8_inn_4 : decode cX8_inn 4 = .ok (.iconst (-1), 1) := by decide +kernel
theorem dX8_inn_5 : decode cX8_inn 5 = .ok (.if_icmp .eq 6, 3) := by decide +kernel
theorem dX8_inn_8 : decode cX8_inn 8 = .ok (.bipush (-4), 2) := by decide +kernel
theorem dX8_inn_10 : decode cX8_inn 10 = .ok (.ireturn, 1) := by decide +kernel
theorem dX8_inn_11 : decode cX8_inn 11 = .ok (.iconst 0, 1) := by decide +kernel
theorem dX8_inn_12 : decode cX8_inn 12 = .ok (.istore_n 1, 1) := by decide +kernel
theorem dX8_inn_13 : decode cX8_inn 13 = .ok (.iload_n 1, 1) := by decide +kernel
theorem dX8_inn_14 : decode cX8_inn 14 = .ok (.aload_n 0, 1) := by decide +kernel
theorem dX8_inn_15 : decode cX8_inn 15 = .ok (.getfield 114, 3) := by decide +kernel
theorem dX8_inn_18 : decode cX8_inn 18 = .ok (.if_icmp .ge 16, 3) := by decide +kernel
theorem dX8_inn_21 : decode cX8_inn 21 = .ok (.aload_n 0, 1) := by decide +kernel
theorem dX8_inn_22 : decode cX8_inn 22 = .ok (.iconst 5, 1) := by decide +kernel
theorem dX8_inn_23 : decode cX8_inn 23 = .ok (.iload_n 1, 1) := by decide +kernel
theorem dX8_inn_24 : decode cX8_inn 24 = .ok (.imul, 1) := by decide +kernel
theorem dX8_inn_25 : decode cX8_inn 25 = .ok (.invokevirtual 163, 3) := by decide +kernel
theorem dX8_inn_28 : decode cX8_inn 28 = .ok (.iinc 1 1, 3) := by decide +kernel
theorem dX8_inn_31 : decode cX8_inn 31 = .ok (.goto (-18), 3) := by decide +kernel
theorem dX8_inn_34 : decode cX8_inn 34 = .ok (.aload_n 0, 1) := by decide +kernel
theorem dX8_inn_35 : decode cX8_inn 35 = .ok (.invokevirtual 63, 3) := by decide +kernel
theorem dX8_inn_38 : decode cX8_inn 38 = .ok (.aload_n 0, 1) := by decide +kernel
theorem dX8_inn_39 : decode cX8_inn 39 = .ok (.iconst 0, 1) := by decide +kernel
theorem dX8_inn_40 : decode cX8_inn 40 = .ok (.putfield 167, 3) := by decide +kernel
theorem dX8_inn_43 : decode cX8_inn 43 = .ok (.aload_n 0, 1) := by decide +kernel
theorem dX8_inn_44 : decode cX8_inn 44 = .ok (.getfield 13, 3) := by decide +kernel
theorem dX8_inn_47 : decode cX8_inn 47 = .ok (.iconst 0, 1) := by decide +kernel
theorem dX8_inn_48 : decode cX8_inn 48 = .ok (.iconst 0, 1) := by decide +kernel
theorem dX8_inn_49 : decode cX8_inn 49 = .ok (.bastore, 1) := by decide +kernel
theorem dX8_inn_50 : decode cX8_inn 50 = .ok (.aload_n 0, 1) := by decide +kernel
theorem dX8_inn_51 : decode cX8_inn 51 = .ok (.getfield 13, 3) := by decide +kernel
theorem dX8_inn_54 : decode cX8_inn 54 = .ok (.iconst 1, 1) := by decide +kernel
theorem dX8_inn_55 : decode cX8_inn 55 = .ok (.iconst 0, 1) := by decide +kernel
theorem dX8_inn_56 : decode cX8_inn 56 = .ok (.bastore, 1) := by decide +kernel
theorem dX8_inn_57 : decode cX8_inn 57 = .ok (.aload_n 0, 1) := by decide +kernel
theorem dX8_inn_58 : decode cX8_inn 58 = .ok (.iconst 0, 1) := by decide +kernel
theorem dX8_inn_59 : decode cX8_inn 59 = .ok (.putfield 79, 3) := by decide +kernel
theorem dX8_inn_62 : decode cX8_inn 62 = .ok (.aload_n 0, 1) := by decide +kernel
theorem dX8_inn_63 : decode cX8_inn 63 = .ok (.getfield 114, 3) := by decide +kernel
theorem dX8_inn_66 : decode cX8_inn 66 = .ok (.ireturn, 1) := by decide +kernel
theorem dX8_isPlace_0 : decode cX8_isPlace 0 = .ok (.iload_n 1, 1) := by decide +kernel
theorem dX8_isPlace_1 : decode cX8_isPlace 1 = .ok (.i2l, 1) := by decide +kernel
theorem dX8_isPlace_2 : decode cX8_isPlace 2 = .ok (.lconst 0, 1) := by decide +kernel
theorem dX8_isPlace_3 : decode cX8_isPlace 3 = .ok (.aload_n 0, 1) := by decide +kernel
theorem dX8_isPlace_4 : decode cX8_isPlace 4 = .ok (.getfield 23, 3) := by decide +kernel
theorem dX8_isPlace_7 : decode cX8_isPlace 7 = .ok (.iconst 1, 1) := by decide +kernel
theorem dX8_isPlace_8 : decode cX8_isPlace 8 = .ok (.isub, 1) := by decide +kernel
theorem dX8_isPlace_9 : decode cX8_isPlace 9 = .ok (.i2l, 1) := by decide +kernel
theorem dX8_isPlace_10 : decode cX8_isPlace 10 = .ok (.invokestatic 70, 3) := by decide +kernel
theorem dX8_isPlace_13 : decode cX8_isPlace 13 = .ok (.ireturn, 1) := by decide +kernel
theorem dX8_isGuest_0 : decode cX8_isGuest 0 = .ok (.iload_n 1, 1) := by decide +kernel
theorem dX8_isGuest_1 : decode cX8_isGuest 1 = .ok (.i2l, 1) := by decide +kernel
theorem dX8_isGuest_2 : decode cX8_isGuest 2 = .ok (.lconst 0, 1) := by decide +kernel
theorem dX8_isGuest_3 : decode cX8_isGuest 3 = .ok (.aload_n 0, 1) := by decide +kernel
theorem dX8_isGuest_4 : decode cX8_isGuest 4 = .ok (.getfield 74, 3) := by decide +kernel
theorem dX8_isGuest_7 : decode cX8_isGuest 7 = .ok (.iconst 1, 1) := by decide +kernel
theorem dX8_isGuest_8 : decode cX8_isGuest 8 = .ok (.isub, 1) := by decide +kernel
theorem dX8_isGuest_9 : decode cX8_isGuest 9 = .ok (.i2l, 1) := by decide +kernel
theorem dX8_isGuest_10 : decode cX8_isGuest 10 = .ok (.invokestatic 70, 3) := by decide +kernel
theorem dX8_isGuest_13 : decode cX8_isGuest 13 = .ok (.ireturn, 1) := by decide +kernel
theorem dX8_place_0 : decode cX8_place 0 = .ok (.aload_n 0, 1) := by decide +kernel
theorem dX8_place_1 : decode cX8_place 1 = .ok (.iload_n 1, 1) := by decide +kernel
theorem dX8_place_2 : decode cX8_place 2 = .ok (.invokevirtual 170, 3) := by decide +kernel
theorem dX8_place_5 : decode cX8_place 5 = .ok (.ifCond .ne 6, 3) := by decide +kernel
theorem dX8_place_8 : decode cX8_place 8 = .ok (.bipush (-2), 2) := by decide +kernel
theorem dX8_place_10 : decode cX8_place 10 = .ok (.ireturn, 1) := by decide +kernel
theorem dX8_place_11 : decode cX8_place 11 = .ok (.iconst (-1), 1) := by decide +kernel
theorem dX8_place_12 : decode cX8_place 12 = .ok (.istore_n 3, 1) := by decide +kernel
theorem dX8_place_13 : decode cX8_place 13 = .ok (.iconst 0, 1) := by decide +kernel
theorem dX8_place_14 : decode cX8_place 14 = .ok (.istore 4, 2) := by decide +kernel
theorem dX8_place_16 : decode cX8_place 16 = .ok (.iconst 0, 1) := by decide +kernel
theorem dX8_place_17 : decode cX8_place 17 = .ok (.istore 5, 2) := by decide +kernel
theorem dX8_place_19 : decode cX8_place 19 = .ok (.iload 5, 2) := by decide +kernel
theorem dX8_place_21 : decode cX8_place 21 = .ok (.aload_n 0, 1) := by decide +kernel
theorem dX8_place_22 : decode cX8_place 22 = .ok (.getfield 74, 3) := by decide +kernel
theorem dX8_place_25 : decode cX8_place 25 = .ok (.if_icmp .ge 70, 3) := by decide +kernel
theorem dX8_place_28 : decode cX8_place 28 = .ok (.aload_n 0, 1) := by decide +kernel
theorem dX8_place_29 : decode cX8_place 29 = .ok (.getfield 7, 3) := by decide +kernel
theorem dX8_place_32 : decode cX8_place 32 = .ok (.bipush 9, 2) := by decide +kernel
theorem dX8_place_34 : decode cX8_place 34 = .ok (.iload 5, 2) := by decide +kernel
theorem dX8_place_36 : decode cX8_place 36 = .ok (.iadd, 1) := by decide +kernel
theorem dX8_place_37 : decode cX8_place 37 = .ok (.iaload, 1) := by decide +kernel
theorem dX8_place_38 : decode cX8_place 38 = .ok (.iload_n 1, 1) := by decide +kernel
theorem dX8_place_39 : decode cX8_place 39 = .ok (.if_icmp .eq 17, 3) := by decide +kernel
theorem dX8_place_42 : decode cX8_place 42 = .ok (.aload_n 0, 1) := by decide +kernel
theorem dX8_place_43 : decode cX8_place 43 = .ok (.getfield 7, 3) := by decide +kernel
theorem dX8_place_46 : decode cX8_place 46 = .ok (.bipush 15, 2) := by decide +kernel
theorem dX8_place_48 : decode cX8_place 48 = .ok (.iload 5, 2) := by decide +kernel
theorem dX8_place_50 : decode cX8_place 50 = .ok (.iadd, 1) := by decide +kernel
theorem dX8_place_51 : decode cX8_place 51 = .ok (.iaload, 1) := by decide +kernel
theorem dX8_place_52 : decode cX8_place 52 = .ok (.iload_n 1, 1) := by decide +kernel
theorem dX8_place_53 : decode cX8_place 53 = .ok (.if_icmp .ne 8, 3) := by decide +kernel
theorem dX8_place_56 : decode cX8_place 56 = .ok (.iload 5, 2) := by decide +kernel
theorem dX8_place_58 : decode cX8_place 58 = .ok (.goto 4, 3) := by decide +kernel
theorem dX8_place_61 : decode cX8_place 61 = .ok (.iload_n 3, 1) := by decide +kernel
theorem dX8_place_62 : decode cX8_place 62 = .ok (.istore_n 3, 1) := by decide +kernel
theorem dX8_place_63 : decode cX8_place 63 = .ok (.iload 4, 2) := by decide +kernel
theorem dX8_place_65 : decode cX8_place 65 = .ok (.aload_n 0, 1) := by decide +kernel
theorem dX8_place_66 : decode cX8_place 66 = .ok (.getfield 7, 3) := by decide +kernel
theorem dX8_place_69 : decode cX8_place 69 = .ok (.iconst 3, 1) := by decide +kernel
theorem dX8_place_70 : decode cX8_place 70 = .ok (.iload 5, 2) := by decide +kernel
theorem dX8_place_72 : decode cX8_place 72 = .ok (.iadd, 1) := by decide +kernel
theorem dX8_place_73 : decode cX8_place 73 = .ok (.iaload, 1) := by decide +kernel
theorem dX8_place_74 : decode cX8_place 74 = .ok (.iload_n 1, 1) := by decide +kernel
theorem dX8_place_75 : decode cX8_place 75 = .ok (.if_icmp .ne 10, 3) := by decide +kernel
theorem dX8_place_78 : decode cX8_place 78 = .ok (.iconst 1, 1) := by decide +kernel
theorem dX8_place_79 : decode cX8_place 79 = .ok (.iload 5, 2) := by decide +kernel
theorem dX8_place_81 : decode cX8_place 81 = .ok (.ishl, 1) := by decide +kernel
theorem dX8_place_82 : decode cX8_place 82 = .ok (.goto 4, 3) := by decide +kernel
theorem dX8_place_85 : decode cX8_place 85 = .ok (.iconst 0, 1) := by decide +kernel
theorem dX8_place_86 : decode cX8_place 86 = .ok (.ior, 1) := by decide +kernel
theorem dX8_place_87 : decode cX8_place 87 = .ok (.istore 4, 2) := by decide +kernel
theorem dX8_place_89 : decode cX8_place 89 = .ok (.iinc 5 1, 3) := by decide +kernel
theorem dX8_place_92 : decode cX8_place 92 = .ok (.goto (-73), 3) := by decide +kernel
theorem dX8_place_95 : decode cX8_place 95 = .ok (.iload_n 2, 1) := by decide +kernel
theorem dX8_place_96 : decode cX8_place 96 = .ok (.ifCond .ne 14, 3) := by decide +kernel
theorem dX8_place_99 : decode cX8_place 99 = .ok (.aload_n 0, 1) := by decide +kernel
theorem dX8_place_100 : decode cX8_place 100 = .ok (.getfield 154, 3) := by decide +kernel
theorem dX8_place_103 : decode cX8_place 103 = .ok (.iload_n 1, 1) := by decide +kernel
theorem dX8_place_104 : decode cX8_place 104 = .ok (.ishr, 1) := by decide +kernel
theorem dX8_place_105 : decode cX8_place 105 = .ok (.iconst 1, 1) := by decide +kernel
theorem dX8_place_106 : decode cX8_place 106 = .ok (.iand, 1) := by decide +kernel
theorem dX8_place_107 : decode cX8_place 107 = .ok (.goto 24, 3) := by decide +kernel
theorem dX8_place_110 : decode cX8_place 110 = .ok (.iload_n 2, 1) := by decide +kernel
theorem dX8_place_111 : decode cX8_place 111 = .ok (.iconst 1, 1) := by decide +kernel
theorem dX8_place_112 : decode cX8_place 112 = .ok (.if_icmp .ne 7, 3) := by decide +kernel
theorem dX8_place_115 : decode cX8_place 115 = .ok (.iload_n 3, 1) := by decide +kernel
theorem dX8_place_116 : decode cX8_place 116 = .ok (.goto 15, 3) := by decide +kernel
theorem dX8_place_119 : decode cX8_place 119 = .ok (.iload_n 2, 1) := by decide +kernel
theorem dX8_place_120 : decode cX8_place 120 = .ok (.iconst 2, 1) := by decide +kernel
theorem dX8_place_121 : decode cX8_place 121 = .ok (.if_icmp .ne 8, 3) := by decide +kernel
theorem dX8_place_124 : decode cX8_place 124 = .ok (.iload 4, 2) := by decide +kernel
theorem dX8_place_126 : decode cX8_place 126 = .ok (.goto 5, 3) := by decide +kernel
theorem dX8_place_129 : decode cX8_place 129 = .ok (.bipush (-3), 2) := by decide +kernel
theorem dX8_place_131 : decode cX8_place 131 = .ok (.ireturn, 1) := by decide +kernel
theorem dX8_guest_0 : decode cX8_guest 0 = .ok (.aload_n 0, 1) := by decide +kernel
theorem dX8_guest_1 : decode cX8_guest 1 = .ok (.iload_n 1, 1) := by decide +kernel
theorem dX8_guest_2 : decode cX8_guest 2 = .ok (.invokevirtual 173, 3) := by decide +kernel
theorem dX8_guest_5 : decode cX8_guest 5 = .ok (.ifCond .ne 6, 3) := by decide +kernel
theorem dX8_guest_8 : decode cX8_guest 8 = .ok (.bipush (-2), 2) := by decide +kernel
theorem dX8_guest_10 : decode cX8_guest 10 = .ok (.ireturn, 1) := by decide +kernel
theorem dX8_guest_11 : decode cX8_guest 11 = .ok (.iload_n 2, 1) := by decide +kernel
theorem dX8_guest_12 : decode cX8_guest 12 = .ok (.tableswitch 101 0 6 #[44, 51, 60, 67, 74, 81, 91], 44) := by decide +kernel
theorem dX8_guest_56 : decode cX8_guest 56 = .ok (.aload_n 0, 1) := by decide +kernel
theorem dX8_guest_57 : decode cX8_guest 57 = .ok (.getfield 27, 3) := by decide +kernel
theorem dX8_guest_60 : decode cX8_guest 60 = .ok (.iload_n 1, 1) := by decide +kernel
theorem dX8_guest_61 : decode cX8_guest 61 = .ok (.iaload, 1) := by decide +kernel
theorem dX8_guest_62 : decode cX8_guest 62 = .ok (.ireturn, 1) := by decide +kernel
theorem dX8_guest_63 : decode cX8_guest 63 = .ok (.aload_n 0, 1) := by decide +kernel
theorem dX8_guest_64 : decode cX8_guest 64 = .ok (.getfield 7, 3) := by decide +kernel
theorem dX8_guest_67 : decode cX8_guest 67 = .ok (.iconst 3, 1) := by decide +kernel
theorem dX8_guest_68 : decode cX8_guest 68 = .ok (.iload_n 1, 1) := by decide +kernel
theorem dX8_guest_69 : decode cX8_guest 69 = .ok (.iadd, 1) := by decide +kernel
theorem dX8_guest_70 : decode cX8_guest 70 = .ok (.iaload, 1) := by decide +kernel
theorem dX8_guest_71 : decode cX8_guest 71 = .ok (.ireturn, 1) := by decide +kernel
theorem dX8_guest_72 : decode cX8_guest 72 = .ok (.aload_n 0, 1) := by decide +kernel
theorem dX8_guest_73 : decode cX8_guest 73 = .ok (.getfield 33, 3) := by decide +kernel
theorem dX8_guest_76 : decode cX8_guest 76 = .ok (.iload_n 1, 1) := by decide +kernel
theorem dX8_guest_77 : decode cX8_guest 77 = .ok (.iaload, 1) := by decide +kernel
theorem dX8_guest_78 : decode cX8_guest 78 = .ok (.ireturn, 1) := by decide +kernel
theorem dX8_guest_79 : decode cX8_guest 79 = .ok (.aload_n 0, 1) := by decide +kernel
theorem dX8_guest_80 : decode cX8_guest 80 = .ok (.getfield 36, 3) := by decide +kernel
theorem dX8_guest_83 : decode cX8_guest 83 = .ok (.iload_n 1, 1) := by decide +kernel
theorem dX8_guest_84 : decode cX8_guest 84 = .ok (.iaload, 1) := by decide +kernel
theorem dX8_guest_85 : decode cX8_guest 85 = .ok (.ireturn, 1) := by decide +kernel
theorem dX8_guest_86 : decode cX8_guest 86 = .ok (.aload_n 0, 1) := by decide +kernel
theorem dX8_guest_87 : decode cX8_guest 87 = .ok (.getfield 39, 3) := by decide +kernel
theorem dX8_guest_90 : decode cX8_guest 90 = .ok (.iload_n 1, 1) := by decide +kernel
theorem dX8_guest_91 : decode cX8_guest 91 = .ok (.iaload, 1) := by decide +kernel
theorem dX8_guest_92 : decode cX8_guest 92 = .ok (.ireturn, 1) := by decide +kernel
theorem dX8_guest_93 : decode cX8_guest 93 = .ok (.aload_n 0, 1) := by decide +kernel
theorem dX8_guest_94 : decode cX8_guest 94 = .ok (.getfield 7, 3) := by decide +kernel
theorem dX8_guest_97 : decode cX8_guest 97 = .ok (.bipush 9, 2) := by decide +kernel
theorem dX8_guest_99 : decode cX8_guest 99 = .ok (.iload_n 1, 1) := by decide +kernel
theorem dX8_guest_100 : decode cX8_guest 100 = .ok (.iadd, 1) := by decide +kernel
theorem dX8_guest_101 : decode cX8_guest 101 = .ok (.iaload, 1) := by decide +kernel
theorem dX8_guest_102 : decode cX8_guest 102 = .ok (.ireturn, 1) := by decide +kernel
theorem dX8_guest_103 : decode cX8_guest 103 = .ok (.aload_n 0, 1) := by decide +kernel
theorem dX8_guest_104 : decode cX8_guest 104 = .ok (.getfield 7, 3) := by decide +kernel
theorem dX8_guest_107 : decode cX8_guest 107 = .ok (.bipush 21, 2) := by decide +kernel
theorem dX8_guest_109 : decode cX8_guest 109 = .ok (.iload_n 1, 1) := by decide +kernel
theorem dX8_guest_110 : decode cX8_guest 110 = .ok (.iadd, 1) := by decide +kernel
theorem dX8_guest_111 : decode cX8_guest 111 = .ok (.iaload, 1) := by decide +kernel
theorem dX8_guest_112 : decode cX8_guest 112 = .ok (.ireturn, 1) := by decide +kernel
theorem dX8_guest_113 : decode cX8_guest 113 = .ok (.bipush (-3), 2) := by decide +kernel
theorem dX8_guest_115 : decode cX8_guest 115 = .ok (.ireturn, 1) := by decide +kernel
theorem dX8_far_0 : decode cX8_far 0 = .ok (.iload_n 2, 1) := by decide +kernel
theorem dX8_far_1 : decode cX8_far 1 = .ok (.iload_n 1, 1) := by decide +kernel
theorem dX8_far_2 : decode cX8_far 2 = .ok (.isub, 1) := by decide +kernel
theorem dX8_far_3 : decode cX8_far 3 = .ok (.aload_n 0, 1) := by decide +kernel
theorem dX8_far_4 : decode cX8_far 4 = .ok (.getfield 23, 3) := by decide +kernel
theorem dX8_far_7 : decode cX8_far 7 = .ok (.iadd, 1) := by decide +kernel
theorem dX8_far_8 : decode cX8_far 8 = .ok (.aload_n 0, 1) := by decide +kernel
theorem dX8_far_9 : decode cX8_far 9 = .ok (.getfield 23, 3) := by decide +kernel
theorem dX8_far_12 : decode cX8_far 12 = .ok (.irem, 1) := by decide +kernel
theorem dX8_far_13 : decode cX8_far 13 = .ok (.istore_n 3, 1) := by decide +kernel
theorem dX8_far_14 : decode cX8_far 14 = .ok (.iload_n 3, 1) := by decide +kernel
theorem dX8_far_15 : decode cX8_far 15 = .ok (.aload_n 0, 1) := by decide +kernel
theorem dX8_far_16 : decode cX8_far 16 = .ok (.getfield 23, 3) := by decide +kernel
theorem dX8_far_19 : decode cX8_far 19 = .ok (.iload_n 3, 1) := by decide +kernel
theorem dX8_far_20 : decode cX8_far 20 = .ok (.isub, 1) := by decide +kernel
theorem dX8_far_21 : decode cX8_far 21 = .ok (.if_icmp .ge 7, 3) := by decide +kernel
theorem dX8_far_24 : decode cX8_far 24 = .ok (.iload_n 3, 1) := by decide +kernel
theorem dX8_far_25 : decode cX8_far 25 = .ok (.goto 9, 3) := by decide +kernel
theorem dX8_far_28 : decode cX8_far 28 = .ok (.aload_n 0, 1) := by decide +kernel
theorem dX8_far_29 : decode cX8_far 29 = .ok (.getfield 23, 3) := by decide +kernel
theorem dX8_far_32 : decode cX8_far 32 = .ok (.iload_n 3, 1) := by decide +kernel
theorem dX8_far_33 : decode cX8_far 33 = .ok (.isub, 1) := by decide +kernel
theorem dX8_far_34 : decode cX8_far 34 = .ok (.ireturn, 1) := by decide +kernel
theorem dX8_effort_0 : decode cX8_effort 0 = .ok (.aload_n 0, 1) := by decide +kernel
theorem dX8_effort_1 : decode cX8_effort 1 = .ok (.iload_n 2, 1) := by decide +kernel
theorem dX8_effort_2 : decode cX8_effort 2 = .ok (.iload_n 3, 1) := by decide +kernel
theorem dX8_effort_3 : decode cX8_effort 3 = .ok (.invokevirtual 176, 3) := by decide +kernel
theorem dX8_effort_6 : decode cX8_effort 6 = .ok (.aload_n 0, 1) := by decide +kernel
theorem dX8_effort_7 : decode cX8_effort 7 = .ok (.getfield 27, 3) := by decide +kernel
theorem dX8_effort_10 : decode cX8_effort 10 = .ok (.iload_n 1, 1) := by decide +kernel
theorem dX8_effort_11 : decode cX8_effort 11 = .ok (.iaload, 1) := by decide +kernel
theorem dX8_effort_12 : decode cX8_effort 12 = .ok (.iconst 1, 1) := by decide +kernel
theorem dX8_effort_13 : decode cX8_effort 13 = .ok (.if_icmp .ne 7, 3) := by decide +kernel
theorem dX8_effort_16 : decode cX8_effort 16 = .ok (.iconst 1, 1) := by decide +kernel
theorem dX8_effort_17 : decode cX8_effort 17 = .ok (.goto 4, 3) := by decide +kernel
theorem dX8_effort_20 : decode cX8_effort 20 = .ok (.iconst 0, 1) := by decide +kernel
theorem dX8_effort_21 : decode cX8_effort 21 = .ok (.isub, 1) := by decide +kernel
theorem dX8_effort_22 : decode cX8_effort 22 = .ok (.ireturn, 1) := by decide +kernel
theorem dX8_as_0 : decode cX8_as 0 = .ok (.aload_n 0, 1) := by decide +kernel
theorem dX8_as_1 : decode cX8_as 1 = .ok (.iload_n 1, 1) := by decide +kernel
theorem dX8_as_2 : decode cX8_as 2 = .ok (.invokevirtual 173, 3) := by decide +kernel
theorem dX8_as_5 : decode cX8_as 5 = .ok (.ifCond .ne 6, 3) := by decide +kernel
theorem dX8_as_8 : decode cX8_as 8 = .ok (.bipush (-2), 2) := by decide +kernel
theorem dX8_as_10 : decode cX8_as 10 = .ok (.ireturn, 1) := by decide +kernel
theorem dX8_as_11 : decode cX8_as 11 = .ok (.iload_n 2, 1) := by decide +kernel
theorem dX8_as_12 : decode cX8_as 12 = .ok (.i2l, 1) := by decide +kernel
theorem dX8_as_13 : decode cX8_as 13 = .ok (.lconst 0, 1) := by decide +kernel
theorem dX8_as_14 : decode cX8_as 14 = .ok (.ldc2_w 180, 3) := by decide +kernel
theorem dX8_as_17 : decode cX8_as 17 = .ok (.invokestatic 70, 3) := by decide +kernel
theorem dX8_as_20 : decode cX8_as 20 = .ok (.ifCond .ne 6, 3) := by decide +kernel
theorem dX8_as_23 : decode cX8_as 23 = .ok (.bipush (-3), 2) := by decide +kernel
theorem dX8_as_25 : decode cX8_as 25 = .ok (.ireturn, 1) := by decide +kernel
theorem dX8_as_26 : decode cX8_as 26 = .ok (.aload_n 0, 1) := by decide +kernel
theorem dX8_as_27 : decode cX8_as 27 = .ok (.getfield 27, 3) := by decide +kernel
theorem dX8_as_30 : decode cX8_as 30 = .ok (.iload_n 1, 1) := by decide +kernel
theorem dX8_as_31 : decode cX8_as 31 = .ok (.iaload, 1) := by decide +kernel
theorem dX8_as_32 : decode cX8_as 32 = .ok (.istore_n 3, 1) := by decide +kernel
theorem dX8_as_33 : decode cX8_as 33 = .ok (.iload_n 2, 1) := by decide +kernel
theorem dX8_as_34 : decode cX8_as 34 = .ok (.ifCond .eq 43, 3) := by decide +kernel
theorem dX8_as_37 : decode cX8_as 37 = .ok (.iload_n 2, 1) := by decide +kernel
theorem dX8_as_38 : decode cX8_as 38 = .ok (.iconst 1, 1) := by decide +kernel
theorem dX8_as_39 : decode cX8_as 39 = .ok (.if_icmp .ne 8, 3) := by decide +kernel
theorem dX8_as_42 : decode cX8_as 42 = .ok (.iload_n 3, 1) := by decide +kernel
theorem dX8_as_43 : decode cX8_as 43 = .ok (.iconst 3, 1) := by decide +kernel
theorem dX8_as_44 : decode cX8_as 44 = .ok (.if_icmp .ne 33, 3) := by decide +kernel
theorem dX8_as_47 : decode cX8_as 47 = .ok (.iload_n 2, 1) := by decide +kernel
theorem dX8_as_48 : decode cX8_as 48 = .ok (.iconst 2, 1) := by decide +kernel
theorem dX8_as_49 : decode cX8_as 49 = .ok (.if_icmp .ne 8, 3) := by decide +kernel
theorem dX8_as_52 : decode cX8_as 52 = .ok (.iload_n 3, 1) := by decide +kernel
theorem dX8_as_53 : decode cX8_as 53 = .ok (.iconst 1, 1) := by decide +kernel
theorem dX8_as_54 : decode cX8_as 54 = .ok (.if_icmp .eq 23, 3) := by decide +kernel
theorem dX8_as_57 : decode cX8_as 57 = .ok (.iload_n 2, 1) := by decide +kernel
theorem dX8_as_58 : decode cX8_as 58 = .ok (.iconst 3, 1) := by decide +kernel
theorem dX8_as_59 : decode cX8_as 59 = .ok (.if_icmp .ne 8, 3) := by decide +kernel
theorem dX8_as_62 : decode cX8_as 62 = .ok (.iload_n 3, 1) := by decide +kernel
theorem dX8_as_63 : decode cX8_as 63 = .ok (.iconst 2, 1) := by decide +kernel
theorem dX8_as_64 : decode cX8_as 64 = .ok (.if_icmp .eq 13, 3) := by decide +kernel
theorem dX8_as_67 : decode cX8_as 67 = .ok (.iload_n 2, 1) := by decide +kernel
theorem dX8_as_68 : decode cX8_as 68 = .ok (.iconst 4, 1) := by decide +kernel
theorem dX8_as_69 : decode cX8_as 69 = .ok (.if_icmp .ne 12, 3) := by decide +kernel
theorem dX8_as_72 : decode cX8_as 72 = .ok (.iload_n 3, 1) := by decide +kernel
theorem dX8_as_73 : decode cX8_as 73 = .ok (.iconst 3, 1) := by decide +kernel
theorem dX8_as_74 : decode cX8_as 74 = .ok (.if_icmp .ne 7, 3) := by decide +kernel
theorem dX8_as_77 : decode cX8_as 77 = .ok (.iconst 1, 1) := by decide +kernel
theorem dX8_as_78 : decode cX8_as 78 = .ok (.goto 4, 3) := by decide +kernel
theorem dX8_as_81 : decode cX8_as 81 = .ok (.iconst 0, 1) := by decide +kernel
theorem dX8_as_82 : decode cX8_as 82 = .ok (.istore 4, 2) := by decide +kernel
theorem dX8_as_84 : decode cX8_as 84 = .ok (.iload 4, 2) := by decide +kernel
theorem dX8_as_86 : decode cX8_as 86 = .ok (.ifCond .ne 6, 3) := by decide +kernel
theorem dX8_as_89 : decode cX8_as 89 = .ok (.bipush (-4), 2) := by decide +kernel
theorem dX8_as_91 : decode cX8_as 91 = .ok (.ireturn, 1) := by decide +kernel
theorem dX8_as_92 : decode cX8_as 92 = .ok (.bipush 99, 2) := by decide +kernel
theorem dX8_as_94 : decode cX8_as 94 = .ok (.istore 5, 2) := by decide +kernel
theorem dX8_as_96 : decode cX8_as 96 = .ok (.iconst 0, 1) := by decide +kernel
theorem dX8_as_97 : decode cX8_as 97 = .ok (.istore 6, 2) := by decide +kernel
theorem dX8_as_99 : decode cX8_as 99 = .ok (.iload 6, 2) := by decide +kernel
theorem dX8_as_101 : decode cX8_as 101 = .ok (.aload_n 0, 1) := by decide +kernel
theorem dX8_as_102 : decode cX8_as 102 = .ok (.getfield 23, 3) := by decide +kernel
theorem dX8_as_105 : decode cX8_as 105 = .ok (.if_icmp .ge 59, 3) := by decide +kernel
theorem dX8_as_108 : decode cX8_as 108 = .ok (.aload_n 0, 1) := by decide +kernel
theorem dX8_as_109 : decode cX8_as 109 = .ok (.getfield 154, 3) := by decide +kernel
theorem dX8_as_112 : decode cX8_as 112 = .ok (.iload 6, 2) := by decide +kernel
theorem dX8_as_114 : decode cX8_as 114 = .ok (.invokestatic 130, 3) := by decide +kernel
theorem dX8_as_117 : decode cX8_as 117 = .ok (.ifCond .eq 21, 3) := by decide +kernel
theorem dX8_as_120 : decode cX8_as 120 = .ok (.aload_n 0, 1) := by decide +kernel
theorem dX8_as_121 : decode cX8_as 121 = .ok (.iload_n 1, 1) := by decide +kernel
theorem dX8_as_122 : decode cX8_as 122 = .ok (.aload_n 0, 1) := by decide +kernel
theorem dX8_as_123 : decode cX8_as 123 = .ok (.getfield 7, 3) := by decide +kernel
theorem dX8_as_126 : decode cX8_as 126 = .ok (.iconst 3, 1) := by decide +kernel
theorem dX8_as_127 : decode cX8_as 127 = .ok (.iload_n 1, 1) := by decide +kernel
theorem dX8_as_128 : decode cX8_as 128 = .ok (.iadd, 1) := by decide +kernel
theorem dX8_as_129 : decode cX8_as 129 = .ok (.iaload, 1) := by decide +kernel
theorem dX8_as_130 : decode cX8_as 130 = .ok (.iload 6, 2) := by decide +kernel
theorem dX8_as_132 : decode cX8_as 132 = .ok (.invokevirtual 182, 3) := by decide +kernel
theorem dX8_as_135 : decode cX8_as 135 = .ok (.goto 5, 3) := by decide +kernel
theorem dX8_as_138 : decode cX8_as 138 = .ok (.bipush 99, 2) := by decide +kernel
theorem dX8_as_140 : decode cX8_as 140 = .ok (.istore 7, 2) := by decide +kernel
theorem dX8_as_142 : decode cX8_as 142 = .ok (.iload 7, 2) := by decide +kernel
theorem dX8_as_144 : decode cX8_as 144 = .ok (.iload 5, 2) := by decide +kernel
theorem dX8_as_146 : decode cX8_as 146 = .ok (.if_icmp .ge 8, 3) := by decide +kernel
theorem dX8_as_149 : decode cX8_as 149 = .ok (.iload 7, 2) := by decide +kernel
theorem dX8_as_151 : decode cX8_as 151 = .ok (.goto 5, 3) := by decide +kernel
theorem dX8_as_154 : decode cX8_as 154 = .ok (.iload 5, 2) := by decide +kernel
theorem dX8_as_156 : decode cX8_as 156 = .ok (.istore 5, 2) := by decide +kernel
theorem dX8_as_158 : decode cX8_as 158 = .ok (.iinc 6 1, 3) := by decide +kernel
theorem dX8_as_161 : decode cX8_as 161 = .ok (.goto (-62), 3) := by decide +kernel
theorem dX8_as_164 : decode cX8_as 164 = .ok (.iload 5, 2) := by decide +kernel
theorem dX8_as_166 : decode cX8_as 166 = .ok (.bipush 99, 2) := by decide +kernel
theorem dX8_as_168 : decode cX8_as 168 = .ok (.if_icmp .ne 7, 3) := by decide +kernel
theorem dX8_as_171 : decode cX8_as 171 = .ok (.iconst (-1), 1) := by decide +kernel
theorem dX8_as_172 : decode cX8_as 172 = .ok (.goto 8, 3) := by decide +kernel
theorem dX8_as_175 : decode cX8_as 175 = .ok (.bipush 100, 2) := by decide +kernel
theorem dX8_as_177 : decode cX8_as 177 = .ok (.iload 5, 2) := by decide +kernel
theorem dX8_as_179 : decode cX8_as 179 = .ok (.iadd, 1) := by decide +kernel
theorem dX8_as_180 : decode cX8_as 180 = .ok (.ireturn, 1) := by decide +kernel
theorem dX8_findsTwo_0 : decode cX8_findsTwo 0 = .ok (.bipush 99, 2) := by decide +kernel
theorem dX8_findsTwo_2 : decode cX8_findsTwo 2 = .ok (.istore_n 2, 1) := by decide +kernel
theorem dX8_findsTwo_3 : decode cX8_findsTwo 3 = .ok (.iconst 0, 1) := by decide +kernel
theorem dX8_findsTwo_4 : decode cX8_findsTwo 4 = .ok (.istore_n 3, 1) := by decide +kernel
theorem dX8_findsTwo_5 : decode cX8_findsTwo 5 = .ok (.iload_n 3, 1) := by decide +kernel
theorem dX8_findsTwo_6 : decode cX8_findsTwo 6 = .ok (.aload_n 0, 1) := by decide +kernel
theorem dX8_findsTwo_7 : decode cX8_findsTwo 7 = .ok (.getfield 74, 3) := by decide +kernel
theorem dX8_findsTwo_10 : decode cX8_findsTwo 10 = .ok (.if_icmp .ge 139, 3) := by decide +kernel
theorem dX8_findsTwo_13 : decode cX8_findsTwo 13 = .ok (.iconst 0, 1) := by decide +kernel
theorem dX8_findsTwo_14 : decode cX8_findsTwo 14 = .ok (.istore 4, 2) := by decide +kernel
theorem dX8_findsTwo_16 : decode cX8_findsTwo 16 = .ok (.iload 4, 2) := by decide +kernel
theorem dX8_findsTwo_18 : decode cX8_findsTwo 18 = .ok (.aload_n 0, 1) := by decide +kernel
theorem dX8_findsTwo_19 : decode cX8_findsTwo 19 = .ok (.getfield 23, 3) := by decide +kernel
theorem dX8_findsTwo_22 : decode cX8_findsTwo 22 = .ok (.if_icmp .ge 121, 3) := by decide +kernel
theorem dX8_findsTwo_25 : decode cX8_findsTwo 25 = .ok (.iload_n 1, 1) := by decide +kernel
theorem dX8_findsTwo_26 : decode cX8_findsTwo 26 = .ok (.iload_n 3, 1) := by decide +kernel
theorem dX8_findsTwo_27 : decode cX8_findsTwo 27 = .ok (.invokestatic 130, 3) := by decide +kernel
theorem dX8_findsTwo_30 : decode cX8_findsTwo 30 = .ok (.ifCond .eq 29, 3) := by decide +kernel
theorem dX8_findsTwo_33 : decode cX8_findsTwo 33 = .ok (.aload_n 0, 1) := by decide +kernel
theorem dX8_findsTwo_34 : decode cX8_findsTwo 34 = .ok (.getfield 45, 3) := by decide +kernel
theorem dX8_findsTwo_37 : decode cX8_findsTwo 37 = .ok (.iload_n 3, 1) := by decide +kernel
theorem dX8_findsTwo_38 : decode cX8_findsTwo 38 = .ok (.iaload, 1) := by decide +kernel
theorem dX8_findsTwo_39 : decode cX8_findsTwo 39 = .ok (.iconst (-1), 1) := by decide +kernel
theorem dX8_findsTwo_40 : decode cX8_findsTwo 40 = .ok (.if_icmp .ne 19, 3) := by decide +kernel
theorem dX8_findsTwo_43 : decode cX8_findsTwo 43 = .ok (.aload_n 0, 1) := by decide +kernel
theorem dX8_findsTwo_44 : decode cX8_findsTwo 44 = .ok (.getfield 186, 3) := by decide +kernel
theorem dX8_findsTwo_47 : decode cX8_findsTwo 47 = .ok (.iload 4, 2) := by decide +kernel
theorem dX8_findsTwo_49 : decode cX8_findsTwo 49 = .ok (.invokestatic 130, 3) := by decide +kernel
theorem dX8_findsTwo_52 : decode cX8_findsTwo 52 = .ok (.ifCond .eq 7, 3) := by decide +kernel
theorem dX8_findsTwo_55 : decode cX8_findsTwo 55 = .ok (.iconst 1, 1) := by decide +kernel
theorem dX8_findsTwo_56 : decode cX8_findsTwo 56 = .ok (.goto 4, 3) := by decide +kernel
theorem dX8_findsTwo_59 : decode cX8_findsTwo 59 = .ok (.iconst 0, 1) := by decide +kernel
theorem dX8_findsTwo_60 : decode cX8_findsTwo 60 = .ok (.istore 5, 2) := by decide +kernel
theorem dX8_findsTwo_62 : decode cX8_findsTwo 62 = .ok (.iload 5, 2) := by decide +kernel
theorem dX8_findsTwo_64 : decode cX8_findsTwo 64 = .ok (.ifCond .eq 19, 3) := by decide +kernel
theorem dX8_findsTwo_67 : decode cX8_findsTwo 67 = .ok (.aload_n 0, 1) := by decide +kernel
theorem dX8_findsTwo_68 : decode cX8_findsTwo 68 = .ok (.iload_n 3, 1) := by decide +kernel
theorem dX8_findsTwo_69 : decode cX8_findsTwo 69 = .ok (.aload_n 0, 1) := by decide +kernel
theorem dX8_findsTwo_70 : decode cX8_findsTwo 70 = .ok (.getfield 42, 3) := by decide +kernel
theorem dX8_findsTwo_73 : decode cX8_findsTwo 73 = .ok (.iload_n 3, 1) := by decide +kernel
theorem dX8_findsTwo_74 : decode cX8_findsTwo 74 = .ok (.iaload, 1) := by decide +kernel
theorem dX8_findsTwo_75 : decode cX8_findsTwo 75 = .ok (.iload 4, 2) := by decide +kernel
theorem dX8_findsTwo_77 : decode cX8_findsTwo 77 = .ok (.invokevirtual 182, 3) := by decide +kernel
theorem dX8_findsTwo_80 : decode cX8_findsTwo 80 = .ok (.goto 5, 3) := by decide +kernel
theorem dX8_findsTwo_83 : decode cX8_findsTwo 83 = .ok (.bipush 99, 2) := by decide +kernel
theorem dX8_findsTwo_85 : decode cX8_findsTwo 85 = .ok (.istore 6, 2) := by decide +kernel
theorem dX8_findsTwo_87 : decode cX8_findsTwo 87 = .ok (.aload_n 0, 1) := by decide +kernel
theorem dX8_findsTwo_88 : decode cX8_findsTwo 88 = .ok (.iload 6, 2) := by decide +kernel
theorem dX8_findsTwo_90 : decode cX8_findsTwo 90 = .ok (.iload_n 2, 1) := by decide +kernel
theorem dX8_findsTwo_91 : decode cX8_findsTwo 91 = .ok (.if_icmp .ge 7, 3) := by decide +kernel
theorem dX8_findsTwo_94 : decode cX8_findsTwo 94 = .ok (.iload_n 3, 1) := by decide +kernel
theorem dX8_findsTwo_95 : decode cX8_findsTwo 95 = .ok (.goto 7, 3) := by decide +kernel
theorem dX8_findsTwo_98 : decode cX8_findsTwo 98 = .ok (.aload_n 0, 1) := by decide +kernel
theorem dX8_findsTwo_99 : decode cX8_findsTwo 99 = .ok (.getfield 189, 3) := by decide +kernel
theorem dX8_findsTwo_102 : decode cX8_findsTwo 102 = .ok (.putfield 189, 3) := by decide +kernel
theorem dX8_findsTwo_105 : decode cX8_findsTwo 105 = .ok (.aload_n 0, 1) := by decide +kernel
theorem dX8_findsTwo_106 : decode cX8_findsTwo 106 = .ok (.iload 6, 2) := by decide +kernel
theorem dX8_findsTwo_108 : decode cX8_findsTwo 108 = .ok (.iload_n 2, 1) := by decide +kernel
theorem dX8_findsTwo_109 : decode cX8_findsTwo 109 = .ok (.if_icmp .ge 8, 3) := by decide +kernel
theorem dX8_findsTwo_112 : decode cX8_findsTwo 112 = .ok (.iload 4, 2) := by decide +kernel
theorem dX8_findsTwo_114 : decode cX8_findsTwo 114 = .ok (.goto 7, 3) := by decide +kernel
theorem dX8_findsTwo_117 : decode cX8_findsTwo 117 = .ok (.aload_n 0, 1) := by decide +kernel
theorem dX8_findsTwo_118 : decode cX8_findsTwo 118 = .ok (.getfield 192, 3) := by decide +kernel
theorem dX8_findsTwo_121 : decode cX8_findsTwo 121 = .ok (.putfield 192, 3) := by decide +kernel
theorem dX8_findsTwo_124 : decode cX8_findsTwo 124 = .ok (.iload 6, 2) := by decide +kernel
theorem dX8_findsTwo_126 : decode cX8_findsTwo 126 = .ok (.iload_n 2, 1) := by decide +kernel
theorem dX8_findsTwo_127 : decode cX8_findsTwo 127 = .ok (.if_icmp .ge 8, 3) := by decide +kernel
theorem dX8_findsTwo_130 : decode cX8_findsTwo 130 = .ok (.iload 6, 2) := by decide +kernel
theorem dX8_findsTwo_132 : decode cX8_findsTwo 132 = .ok (.goto 4, 3) := by decide +kernel
theorem dX8_findsTwo_135 : decode cX8_findsTwo 135 = .ok (.iload_n 2, 1) := by decide +kernel
theorem dX8_findsTwo_136 : decode cX8_findsTwo 136 = .ok (.istore_n 2, 1) := by decide +kernel
theorem dX8_findsTwo_137 : decode cX8_findsTwo 137 = .ok (.iinc 4 1, 3) := by decide +kernel
theorem dX8_findsTwo_140 : decode cX8_findsTwo 140 = .ok (.goto (-124), 3) := by decide +kernel
theorem dX8_findsTwo_143 : decode cX8_findsTwo 143 = .ok (.iinc 3 1, 3) := by decide +kernel
theorem dX8_findsTwo_146 : decode cX8_findsTwo 146 = .ok (.goto (-141), 3) := by decide +kernel
theorem dX8_findsTwo_149 : decode cX8_findsTwo 149 = .ok (.iload_n 2, 1) := by decide +kernel
theorem dX8_findsTwo_150 : decode cX8_findsTwo 150 = .ok (.bipush 99, 2) := by decide +kernel
theorem dX8_findsTwo_152 : decode cX8_findsTwo 152 = .ok (.if_icmp .ge 7, 3) := by decide +kernel
theorem dX8_findsTwo_155 : decode cX8_findsTwo 155 = .ok (.iconst 1, 1) := by decide +kernel
theorem dX8_findsTwo_156 : decode cX8_findsTwo 156 = .ok (.goto 4, 3) := by decide +kernel
theorem dX8_findsTwo_159 : decode cX8_findsTwo 159 = .ok (.iconst 0, 1) := by decide +kernel
theorem dX8_findsTwo_160 : decode cX8_findsTwo 160 = .ok (.ireturn, 1) := by decide +kernel
theorem dX8_takeSecond_0 : decode cX8_takeSecond 0 = .ok (.bipush 99, 2) := by decide +kernel
theorem dX8_takeSecond_2 : decode cX8_takeSecond 2 = .ok (.istore_n 2, 1) := by decide +kernel
theorem dX8_takeSecond_3 : decode cX8_takeSecond 3 = .ok (.iconst (-1), 1) := by decide +kernel
theorem dX8_takeSecond_4 : decode cX8_takeSecond 4 = .ok (.istore_n 3, 1) := by decide +kernel
theorem dX8_takeSecond_5 : decode cX8_takeSecond 5 = .ok (.iconst 0, 1) := by decide +kernel
theorem dX8_takeSecond_6 : decode cX8_takeSecond 6 = .ok (.istore 4, 2) := by decide +kernel
theorem dX8_takeSecond_8 : decode cX8_takeSecond 8 = .ok (.iload 4, 2) := by decide +kernel
theorem dX8_takeSecond_10 : decode cX8_takeSecond 10 = .ok (.aload_n 0, 1) := by decide +kernel
theorem dX8_takeSecond_11 : decode cX8_takeSecond 11 = .ok (.getfield 23, 3) := by decide +kernel
theorem dX8_takeSecond_14 : decode cX8_takeSecond 14 = .ok (.if_icmp .ge 66, 3) := by decide +kernel
theorem dX8_takeSecond_17 : decode cX8_takeSecond 17 = .ok (.aload_n 0, 1) := by decide +kernel
theorem dX8_takeSecond_18 : decode cX8_takeSecond 18 = .ok (.getfield 186, 3) := by decide +kernel
theorem dX8_takeSecond_21 : decode cX8_takeSecond 21 = .ok (.iload 4, 2) := by decide +kernel
theorem dX8_takeSecond_23 : decode cX8_takeSecond 23 = .ok (.invokestatic 130, 3) := by decide +kernel
theorem dX8_takeSecond_26 : decode cX8_takeSecond 26 = .ok (.ifCond .eq 18, 3) := by decide +kernel
theorem dX8_takeSecond_29 : decode cX8_takeSecond 29 = .ok (.aload_n 0, 1) := by decide +kernel
theorem dX8_takeSecond_30 : decode cX8_takeSecond 30 = .ok (.aload_n 0, 1) := by decide +kernel
theorem dX8_takeSecond_31 : decode cX8_takeSecond 31 = .ok (.getfield 45, 3) := by decide +kernel
theorem dX8_takeSecond_34 : decode cX8_takeSecond 34 = .ok (.iload_n 1, 1) := by decide +kernel
theorem dX8_takeSecond_35 : decode cX8_takeSecond 35 = .ok (.iaload, 1) := by decide +kernel
theorem dX8_takeSecond_36 : decode cX8_takeSecond 36 = .ok (.iload 4, 2) := by decide +kernel
theorem dX8_takeSecond_38 : decode cX8_takeSecond 38 = .ok (.invokevirtual 176, 3) := by decide +kernel
theorem dX8_takeSecond_41 : decode cX8_takeSecond 41 = .ok (.goto 5, 3) := by decide +kernel
theorem dX8_takeSecond_44 : decode cX8_takeSecond 44 = .ok (.bipush 99, 2) := by decide +kernel
theorem dX8_takeSecond_46 : decode cX8_takeSecond 46 = .ok (.istore 5, 2) := by decide +kernel
theorem dX8_takeSecond_48 : decode cX8_takeSecond 48 = .ok (.iload 5, 2) := by decide +kernel
theorem dX8_takeSecond_50 : decode cX8_takeSecond 50 = .ok (.iload_n 2, 1) := by decide +kernel
theorem dX8_takeSecond_51 : decode cX8_takeSecond 51 = .ok (.if_icmp .ge 8, 3) := by decide +kernel
theorem dX8_takeSecond_54 : decode cX8_takeSecond 54 = .ok (.iload 4, 2) := by decide +kernel
theorem dX8_takeSecond_56 : decode cX8_takeSecond 56 = .ok (.goto 4, 3) := by decide +kernel
theorem dX8_takeSecond_59 : decode cX8_takeSecond 59 = .ok (.iload_n 3, 1) := by decide +kernel
theorem dX8_takeSecond_60 : decode cX8_takeSecond 60 = .ok (.istore_n 3, 1) := by decide +kernel
theorem dX8_takeSecond_61 : decode cX8_takeSecond 61 = .ok (.iload 5, 2) := by decide +kernel
theorem dX8_takeSecond_63 : decode cX8_takeSecond 63 = .ok (.iload_n 2, 1) := by decide +kernel
theorem dX8_takeSecond_64 : decode cX8_takeSecond 64 = .ok (.if_icmp .ge 8, 3) := by decide +kernel
theorem dX8_takeSecond_67 : decode cX8_takeSecond 67 = .ok (.iload 5, 2) := by decide +kernel
theorem dX8_takeSecond_69 : decode cX8_takeSecond 69 = .ok (.goto 4, 3) := by decide +kernel
theorem dX8_takeSecond_72 : decode cX8_takeSecond 72 = .ok (.iload_n 2, 1) := by decide +kernel
theorem dX8_takeSecond_73 : decode cX8_takeSecond 73 = .ok (.istore_n 2, 1) := by decide +kernel
theorem dX8_takeSecond_74 : decode cX8_takeSecond 74 = .ok (.iinc 4 1, 3) := by decide +kernel
theorem dX8_takeSecond_77 : decode cX8_takeSecond 77 = .ok (.goto (-69), 3) := by decide +kernel
theorem dX8_takeSecond_80 : decode cX8_takeSecond 80 = .ok (.aload_n 0, 1) := by decide +kernel
theorem dX8_takeSecond_81 : decode cX8_takeSecond 81 = .ok (.getfield 48, 3) := by decide +kernel
theorem dX8_takeSecond_84 : decode cX8_takeSecond 84 = .ok (.iload_n 1, 1) := by decide +kernel
theorem dX8_takeSecond_85 : decode cX8_takeSecond 85 = .ok (.iload_n 3, 1) := by decide +kernel
theorem dX8_takeSecond_86 : decode cX8_takeSecond 86 = .ok (.iastore, 1) := by decide +kernel
theorem dX8_takeSecond_87 : decode cX8_takeSecond 87 = .ok (.aload_n 0, 1) := by decide +kernel
theorem dX8_takeSecond_88 : decode cX8_takeSecond 88 = .ok (.dup, 1) := by decide +kernel
theorem dX8_takeSecond_89 : decode cX8_takeSecond 89 = .ok (.getfield 186, 3) := by decide +kernel
theorem dX8_takeSecond_92 : decode cX8_takeSecond 92 = .ok (.iload_n 3, 1) := by decide +kernel
theorem dX8_takeSecond_93 : decode cX8_takeSecond 93 = .ok (.iconst (-1), 1) := by decide +kernel
theorem dX8_takeSecond_94 : decode cX8_takeSecond 94 = .ok (.if_icmp .ne 7, 3) := by decide +kernel
theorem dX8_takeSecond_97 : decode cX8_takeSecond 97 = .ok (.iconst (-1), 1) := by decide +kernel
theorem dX8_takeSecond_98 : decode cX8_takeSecond 98 = .ok (.goto 8, 3) := by decide +kernel
theorem dX8_takeSecond_101 : decode cX8_takeSecond 101 = .ok (.iconst 1, 1) := by decide +kernel
theorem dX8_takeSecond_102 : decode cX8_takeSecond 102 = .ok (.iload_n 3, 1) := by decide +kernel
theorem dX8_takeSecond_103 : decode cX8_takeSecond 103 = .ok (.ishl, 1) := by decide +kernel
theorem dX8_takeSecond_104 : decode cX8_takeSecond 104 = .ok (.iconst (-1), 1) := by decide +kernel
theorem dX8_takeSecond_105 : decode cX8_takeSecond 105 = .ok (.ixor, 1) := by decide +kernel
theorem dX8_takeSecond_106 : decode cX8_takeSecond 106 = .ok (.iand, 1) := by decide +kernel
theorem dX8_takeSecond_107 : decode cX8_takeSecond 107 = .ok (.putfield 186, 3) := by decide +kernel
theorem dX8_takeSecond_110 : decode cX8_takeSecond 110 = .ok (.return_, 1) := by decide +kernel
theorem dX8_seat_0 : decode cX8_seat 0 = .ok (.aload_n 0, 1) := by decide +kernel
theorem dX8_seat_1 : decode cX8_seat 1 = .ok (.iload_n 1, 1) := by decide +kernel
theorem dX8_seat_2 : decode cX8_seat 2 = .ok (.invokevirtual 195, 3) := by decide +kernel
theorem dX8_seat_5 : decode cX8_seat 5 = .ok (.ifCond .eq 57, 3) := by decide +kernel
theorem dX8_seat_8 : decode cX8_seat 8 = .ok (.aload_n 0, 1) := by decide +kernel
theorem dX8_seat_9 : decode cX8_seat 9 = .ok (.getfield 45, 3) := by decide +kernel
theorem dX8_seat_12 : decode cX8_seat 12 = .ok (.aload_n 0, 1) := by decide +kernel
theorem dX8_seat_13 : decode cX8_seat 13 = .ok (.getfield 189, 3) := by decide +kernel
theorem dX8_seat_16 : decode cX8_seat 16 = .ok (.aload_n 0, 1) := by decide +kernel
theorem dX8_seat_17 : decode cX8_seat 17 = .ok (.getfield 192, 3) := by decide +kernel
theorem dX8_seat_20 : decode cX8_seat 20 = .ok (.iastore, 1) := by decide +kernel
theorem dX8_seat_21 : decode cX8_seat 21 = .ok (.aload_n 0, 1) := by decide +kernel
theorem dX8_seat_22 : decode cX8_seat 22 = .ok (.dup, 1) := by decide +kernel
theorem dX8_seat_23 : decode cX8_seat 23 = .ok (.getfield 186, 3) := by decide +kernel
theorem dX8_seat_26 : decode cX8_seat 26 = .ok (.iconst 1, 1) := by decide +kernel
theorem dX8_seat_27 : decode cX8_seat 27 = .ok (.aload_n 0, 1) := by decide +kernel
theorem dX8_seat_28 : decode cX8_seat 28 = .ok (.getfield 192, 3) := by decide +kernel
theorem dX8_seat_31 : decode cX8_seat 31 = .ok (.ishl, 1) := by decide +kernel
theorem dX8_seat_32 : decode cX8_seat 32 = .ok (.iconst (-1), 1) := by decide +kernel
theorem dX8_seat_33 : decode cX8_seat 33 = .ok (.ixor, 1) := by decide +kernel
theorem dX8_seat_34 : decode cX8_seat 34 = .ok (.iand, 1) := by decide +kernel
theorem dX8_seat_35 : decode cX8_seat 35 = .ok (.putfield 186, 3) := by decide +kernel
theorem dX8_seat_38 : decode cX8_seat 38 = .ok (.aload_n 0, 1) := by decide +kernel
theorem dX8_seat_39 : decode cX8_seat 39 = .ok (.getfield 27, 3) := by decide +kernel
theorem dX8_seat_42 : decode cX8_seat 42 = .ok (.aload_n 0, 1) := by decide +kernel
theorem dX8_seat_43 : decode cX8_seat 43 = .ok (.getfield 189, 3) := by decide +kernel
theorem dX8_seat_46 : decode cX8_seat 46 = .ok (.iaload, 1) := by decide +kernel
theorem dX8_seat_47 : decode cX8_seat 47 = .ok (.iconst 3, 1) := by decide +kernel
theorem dX8_seat_48 : decode cX8_seat 48 = .ok (.if_icmp .ne (-48), 3) := by decide +kernel
theorem dX8_seat_51 : decode cX8_seat 51 = .ok (.aload_n 0, 1) := by decide +kernel
theorem dX8_seat_52 : decode cX8_seat 52 = .ok (.aload_n 0, 1) := by decide +kernel
theorem dX8_seat_53 : decode cX8_seat 53 = .ok (.getfield 189, 3) := by decide +kernel
theorem dX8_seat_56 : decode cX8_seat 56 = .ok (.invokevirtual 198, 3) := by decide +kernel
theorem dX8_seat_59 : decode cX8_seat 59 = .ok (.goto (-59), 3) := by decide +kernel
theorem dX8_seat_62 : decode cX8_seat 62 = .ok (.return_, 1) := by decide +kernel
theorem dX8_faint_0 : decode cX8_faint 0 = .ok (.iconst 0, 1) := by decide +kernel
theorem dX8_faint_1 : decode cX8_faint 1 = .ok (.istore_n 1, 1) := by decide +kernel
theorem dX8_faint_2 : decode cX8_faint 2 = .ok (.iconst 0, 1) := by decide +kernel
theorem dX8_faint_3 : decode cX8_faint 3 = .ok (.istore_n 2, 1) := by decide +kernel
theorem dX8_faint_4 : decode cX8_faint 4 = .ok (.iload_n 2, 1) := by decide +kernel
theorem dX8_faint_5 : decode cX8_faint 5 = .ok (.aload_n 0, 1) := by decide +kernel
theorem dX8_faint_6 : decode cX8_faint 6 = .ok (.getfield 74, 3) := by decide +kernel
theorem dX8_faint_9 : decode cX8_faint 9 = .ok (.if_icmp .ge 29, 3) := by decide +kernel
theorem dX8_faint_12 : decode cX8_faint 12 = .ok (.iload_n 1, 1) := by decide +kernel
theorem dX8_faint_13 : decode cX8_faint 13 = .ok (.aload_n 0, 1) := by decide +kernel
theorem dX8_faint_14 : decode cX8_faint 14 = .ok (.getfield 27, 3) := by decide +kernel
theorem dX8_faint_17 : decode cX8_faint 17 = .ok (.iload_n 2, 1) := by decide +kernel
theorem dX8_faint_18 : decode cX8_faint 18 = .ok (.iaload, 1) := by decide +kernel
theorem dX8_faint_19 : decode cX8_faint 19 = .ok (.iconst 2, 1) := by decide +kernel
theorem dX8_faint_20 : decode cX8_faint 20 = .ok (.if_icmp .ne 9, 3) := by decide +kernel
theorem dX8_faint_23 : decode cX8_faint 23 = .ok (.iconst 1, 1) := by decide +kernel
theorem dX8_faint_24 : decode cX8_faint 24 = .ok (.iload_n 2, 1) := by decide +kernel
theorem dX8_faint_25 : decode cX8_faint 25 = .ok (.ishl, 1) := by decide +kernel
theorem dX8_faint_26 : decode cX8_faint 26 = .ok (.goto 4, 3) := by decide +kernel
theorem dX8_faint_29 : decode cX8_faint 29 = .ok (.iconst 0, 1) := by decide +kernel
theorem dX8_faint_30 : decode cX8_faint 30 = .ok (.ior, 1) := by decide +kernel
theorem dX8_faint_31 : decode cX8_faint 31 = .ok (.istore_n 1, 1) := by decide +kernel
theorem dX8_faint_32 : decode cX8_faint 32 = .ok (.iinc 2 1, 3) := by decide +kernel
theorem dX8_faint_35 : decode cX8_faint 35 = .ok (.goto (-31), 3) := by decide +kernel
theorem dX8_faint_38 : decode cX8_faint 38 = .ok (.iload_n 1, 1) := by decide +kernel
theorem dX8_faint_39 : decode cX8_faint 39 = .ok (.ireturn, 1) := by decide +kernel
theorem dX8_stops_0 : decode cX8_stops 0 = .ok (.aload_n 0, 1) := by decide +kernel
theorem dX8_stops_1 : decode cX8_stops 1 = .ok (.iload_n 1, 1) := by decide +kernel
theorem dX8_stops_2 : decode cX8_stops 2 = .ok (.putfield 186, 3) := by decide +kernel
theorem dX8_stops_5 : decode cX8_stops 5 = .ok (.iconst 0, 1) := by decide +kernel
theorem dX8_stops_6 : decode cX8_stops 6 = .ok (.istore_n 3, 1) := by decide +kernel
theorem dX8_stops_7 : decode cX8_stops 7 = .ok (.iload_n 3, 1) := by decide +kernel
theorem dX8_stops_8 : decode cX8_stops 8 = .ok (.bipush 6, 2) := by decide +kernel
theorem dX8_stops_10 : decode cX8_stops 10 = .ok (.if_icmp .ge 23, 3) := by decide +kernel
theorem dX8_stops_13 : decode cX8_stops 13 = .ok (.aload_n 0, 1) := by decide +kernel
theorem dX8_stops_14 : decode cX8_stops 14 = .ok (.getfield 45, 3) := by decide +kernel
theorem dX8_stops_17 : decode cX8_stops 17 = .ok (.iload_n 3, 1) := by decide +kernel
theorem dX8_stops_18 : decode cX8_stops 18 = .ok (.iconst (-1), 1) := by decide +kernel
theorem dX8_stops_19 : decode cX8_stops 19 = .ok (.iastore, 1) := by decide +kernel
theorem dX8_stops_20 : decode cX8_stops 20 = .ok (.aload_n 0, 1) := by decide +kernel
theorem dX8_stops_21 : decode cX8_stops 21 = .ok (.getfield 48, 3) := by decide +kernel
theorem dX8_stops_24 : decode cX8_stops 24 = .ok (.iload_n 3, 1) := by decide +kernel
theorem dX8_stops_25 : decode cX8_stops 25 = .ok (.iconst (-1), 1) := by decide +kernel
theorem dX8_stops_26 : decode cX8_stops 26 = .ok (.iastore, 1) := by decide +kernel
theorem dX8_stops_27 : decode cX8_stops 27 = .ok (.iinc 3 1, 3) := by decide +kernel
theorem dX8_stops_30 : decode cX8_stops 30 = .ok (.goto (-23), 3) := by decide +kernel
theorem dX8_stops_33 : decode cX8_stops 33 = .ok (.aload_n 0, 1) := by decide +kernel
theorem dX8_stops_34 : decode cX8_stops 34 = .ok (.iload_n 2, 1) := by decide +kernel
theorem dX8_stops_35 : decode cX8_stops 35 = .ok (.aload_n 0, 1) := by decide +kernel
theorem dX8_stops_36 : decode cX8_stops 36 = .ok (.invokevirtual 201, 3) := by decide +kernel
theorem dX8_stops_39 : decode cX8_stops 39 = .ok (.iconst (-1), 1) := by decide +kernel
theorem dX8_stops_40 : decode cX8_stops 40 = .ok (.ixor, 1) := by decide +kernel
theorem dX8_stops_41 : decode cX8_stops 41 = .ok (.iand, 1) := by decide +kernel
theorem dX8_stops_42 : decode cX8_stops 42 = .ok (.invokevirtual 204, 3) := by decide +kernel
theorem dX8_stops_45 : decode cX8_stops 45 = .ok (.aload_n 0, 1) := by decide +kernel
theorem dX8_stops_46 : decode cX8_stops 46 = .ok (.iload_n 2, 1) := by decide +kernel
theorem dX8_stops_47 : decode cX8_stops 47 = .ok (.aload_n 0, 1) := by decide +kernel
theorem dX8_stops_48 : decode cX8_stops 48 = .ok (.invokevirtual 201, 3) := by decide +kernel
theorem dX8_stops_51 : decode cX8_stops 51 = .ok (.iand, 1) := by decide +kernel
theorem dX8_stops_52 : decode cX8_stops 52 = .ok (.invokevirtual 204, 3) := by decide +kernel
theorem dX8_stops_55 : decode cX8_stops 55 = .ok (.iconst 0, 1) := by decide +kernel
theorem dX8_stops_56 : decode cX8_stops 56 = .ok (.istore_n 3, 1) := by decide +kernel
theorem dX8_stops_57 : decode cX8_stops 57 = .ok (.iconst 0, 1) := by decide +kernel
theorem dX8_stops_58 : decode cX8_stops 58 = .ok (.istore 4, 2) := by decide +kernel
theorem dX8_stops_60 : decode cX8_stops 60 = .ok (.iload 4, 2) := by decide +kernel
theorem dX8_stops_62 : decode cX8_stops 62 = .ok (.aload_n 0, 1) := by decide +kernel
theorem dX8_stops_63 : decode cX8_stops 63 = .ok (.getfield 74, 3) := by decide +kernel
theorem dX8_stops_66 : decode cX8_stops 66 = .ok (.if_icmp .ge 47, 3) := by decide +kernel
theorem dX8_stops_69 : decode cX8_stops 69 = .ok (.iload_n 3, 1) := by decide +kernel
theorem dX8_stops_70 : decode cX8_stops 70 = .ok (.iload_n 2, 1) := by decide +kernel
theorem dX8_stops_71 : decode cX8_stops 71 = .ok (.aload_n 0, 1) := by decide +kernel
theorem dX8_stops_72 : decode cX8_stops 72 = .ok (.invokevirtual 201, 3) := by decide +kernel
theorem dX8_stops_75 : decode cX8_stops 75 = .ok (.iconst (-1), 1) := by decide +kernel
theorem dX8_stops_76 : decode cX8_stops 76 = .ok (.ixor, 1) := by decide +kernel
theorem dX8_stops_77 : decode cX8_stops 77 = .ok (.iand, 1) := by decide +kernel
theorem dX8_stops_78 : decode cX8_stops 78 = .ok (.iload 4, 2) := by decide +kernel
theorem dX8_stops_80 : decode cX8_stops 80 = .ok (.invokestatic 130, 3) := by decide +kernel
theorem dX8_stops_83 : decode cX8_stops 83 = .ok (.ifCond .eq 21, 3) := by decide +kernel
theorem dX8_stops_86 : decode cX8_stops 86 = .ok (.aload_n 0, 1) := by decide +kernel
theorem dX8_stops_87 : decode cX8_stops 87 = .ok (.getfield 45, 3) := by decide +kernel
theorem dX8_stops_90 : decode cX8_stops 90 = .ok (.iload 4, 2) := by decide +kernel
theorem dX8_stops_92 : decode cX8_stops 92 = .ok (.iaload, 1) := by decide +kernel
theorem dX8_stops_93 : decode cX8_stops 93 = .ok (.iconst (-1), 1) := by decide +kernel
theorem dX8_stops_94 : decode cX8_stops 94 = .ok (.if_icmp .ne 10, 3) := by decide +kernel
theorem dX8_stops_97 : decode cX8_stops 97 = .ok (.iconst 1, 1) := by decide +kernel
theorem dX8_stops_98 : decode cX8_stops 98 = .ok (.iload 4, 2) := by decide +kernel
theorem dX8_stops_100 : decode cX8_stops 100 = .ok (.ishl, 1) := by decide +kernel
theorem dX8_stops_101 : decode cX8_stops 101 = .ok (.goto 4, 3) := by decide +kernel
theorem dX8_stops_104 : decode cX8_stops 104 = .ok (.iconst 0, 1) := by decide +kernel
theorem dX8_stops_105 : decode cX8_stops 105 = .ok (.ior, 1) := by decide +kernel
theorem dX8_stops_106 : decode cX8_stops 106 = .ok (.istore_n 3, 1) := by decide +kernel
theorem dX8_stops_107 : decode cX8_stops 107 = .ok (.iinc 4 1, 3) := by decide +kernel
theorem dX8_stops_110 : decode cX8_stops 110 = .ok (.goto (-50), 3) := by decide +kernel
theorem dX8_stops_113 : decode cX8_stops 113 = .ok (.iload_n 3, 1) := by decide +kernel
theorem dX8_stops_114 : decode cX8_stops 114 = .ok (.ireturn, 1) := by decide +kernel
theorem dX8_everybody_0 : decode cX8_everybody 0 = .ok (.iconst 1, 1) := by decide +kernel
theorem dX8_everybody_1 : decode cX8_everybody 1 = .ok (.aload_n 0, 1) := by decide +kernel
theorem dX8_everybody_2 : decode cX8_everybody 2 = .ok (.getfield 74, 3) := by decide +kernel
theorem dX8_everybody_5 : decode cX8_everybody 5 = .ok (.ishl, 1) := by decide +kernel
theorem dX8_everybody_6 : decode cX8_everybody 6 = .ok (.iconst 1, 1) := by decide +kernel
theorem dX8_everybody_7 : decode cX8_everybody 7 = .ok (.isub, 1) := by decide +kernel
theorem dX8_everybody_8 : decode cX8_everybody 8 = .ok (.ireturn, 1) := by decide +kernel
theorem dX8_walked_0 : decode cX8_walked 0 = .ok (.iload_n 2, 1) := by decide +kernel
theorem dX8_walked_1 : decode cX8_walked 1 = .ok (.iload 4, 2) := by decide +kernel
theorem dX8_walked_3 : decode cX8_walked 3 = .ok (.imul, 1) := by decide +kernel
theorem dX8_walked_4 : decode cX8_walked 4 = .ok (.aload_n 0, 1) := by decide +kernel
theorem dX8_walked_5 : decode cX8_walked 5 = .ok (.getfield 23, 3) := by decide +kernel
theorem dX8_walked_8 : decode cX8_walked 8 = .ok (.irem, 1) := by decide +kernel
theorem dX8_walked_9 : decode cX8_walked 9 = .ok (.istore 5, 2) := by decide +kernel
theorem dX8_walked_11 : decode cX8_walked 11 = .ok (.iload_n 3, 1) := by decide +kernel
theorem dX8_walked_12 : decode cX8_walked 12 = .ok (.ifCond .ne 15, 3) := by decide +kernel
theorem dX8_walked_15 : decode cX8_walked 15 = .ok (.iload_n 1, 1) := by decide +kernel
theorem dX8_walked_16 : decode cX8_walked 16 = .ok (.iload 5, 2) := by decide +kernel
theorem dX8_walked_18 : decode cX8_walked 18 = .ok (.iadd, 1) := by decide +kernel
theorem dX8_walked_19 : decode cX8_walked 19 = .ok (.aload_n 0, 1) := by decide +kernel
theorem dX8_walked_20 : decode cX8_walked 20 = .ok (.getfield 23, 3) := by decide +kernel
theorem dX8_walked_23 : decode cX8_walked 23 = .ok (.irem, 1) := by decide +kernel
theorem dX8_walked_24 : decode cX8_walked 24 = .ok (.goto 17, 3) := by decide +kernel
theorem dX8_walked_27 : decode cX8_walked 27 = .ok (.iload_n 1, 1) := by decide +kernel
theorem dX8_walked_28 : decode cX8_walked 28 = .ok (.aload_n 0, 1) := by decide +kernel
theorem dX8_walked_29 : decode cX8_walked 29 = .ok (.getfield 23, 3) := by decide +kernel
theorem dX8_walked_32 : decode cX8_walked 32 = .ok (.iadd, 1) := by decide +kernel
theorem dX8_walked_33 : decode cX8_walked 33 = .ok (.iload 5, 2) := by decide +kernel
theorem dX8_walked_35 : decode cX8_walked 35 = .ok (.isub, 1) := by decide +kernel
theorem dX8_walked_36 : decode cX8_walked 36 = .ok (.aload_n 0, 1) := by decide +kernel
theorem dX8_walked_37 : decode cX8_walked 37 = .ok (.getfield 23, 3) := by decide +kernel
theorem dX8_walked_40 : decode cX8_walked 40 = .ok (.irem, 1) := by decide +kernel
theorem dX8_walked_41 : decode cX8_walked 41 = .ok (.ireturn, 1) := by decide +kernel
theorem dX8_walk_0 : decode cX8_walk 0 = .ok (.iload_n 1, 1) := by decide +kernel
theorem dX8_walk_1 : decode cX8_walk 1 = .ok (.i2l, 1) := by decide +kernel
theorem dX8_walk_2 : decode cX8_walk 2 = .ok (.lconst 1, 1) := by decide +kernel
theorem dX8_walk_3 : decode cX8_walk 3 = .ok (.ldc2_w 207, 3) := by decide +kernel
theorem dX8_walk_6 : decode cX8_walk 6 = .ok (.invokestatic 70, 3) := by decide +kernel
theorem dX8_walk_9 : decode cX8_walk 9 = .ok (.ifCond .ne 6, 3) := by decide +kernel
theorem dX8_walk_12 : decode cX8_walk 12 = .ok (.bipush (-3), 2) := by decide +kernel
theorem dX8_walk_14 : decode cX8_walk 14 = .ok (.ireturn, 1) := by decide +kernel
theorem dX8_walk_15 : decode cX8_walk 15 = .ok (.aload_n 0, 1) := by decide +kernel
theorem dX8_walk_16 : decode cX8_walk 16 = .ok (.getfield 7, 3) := by decide +kernel
theorem dX8_walk_19 : decode cX8_walk 19 = .ok (.iconst 1, 1) := by decide +kernel
theorem dX8_walk_20 : decode cX8_walk 20 = .ok (.iaload, 1) := by decide +kernel
theorem dX8_walk_21 : decode cX8_walk 21 = .ok (.iconst 1, 1) := by decide +kernel
theorem dX8_walk_22 : decode cX8_walk 22 = .ok (.if_icmp .ne 6, 3) := by decide +kernel
theorem dX8_walk_25 : decode cX8_walk 25 = .ok (.bipush (-4), 2) := by decide +kernel
theorem dX8_walk_27 : decode cX8_walk 27 = .ok (.ireturn, 1) := by decide +kernel
theorem dX8_walk_28 : decode cX8_walk 28 = .ok (.aload_n 0, 1) := by decide +kernel
theorem dX8_walk_29 : decode cX8_walk 29 = .ok (.getfield 7, 3) := by decide +kernel
theorem dX8_walk_32 : decode cX8_walk 32 = .ok (.iconst 0, 1) := by decide +kernel
theorem dX8_walk_33 : decode cX8_walk 33 = .ok (.iaload, 1) := by decide +kernel
theorem dX8_walk_34 : decode cX8_walk 34 = .ok (.iload_n 1, 1) := by decide +kernel
theorem dX8_walk_35 : decode cX8_walk 35 = .ok (.iadd, 1) := by decide +kernel
theorem dX8_walk_36 : decode cX8_walk 36 = .ok (.sipush 9999, 3) := by decide +kernel
theorem dX8_walk_39 : decode cX8_walk 39 = .ok (.if_icmp .le 6, 3) := by decide +kernel
theorem dX8_walk_42 : decode cX8_walk 42 = .ok (.bipush (-5), 2) := by decide +kernel
theorem dX8_walk_44 : decode cX8_walk 44 = .ok (.ireturn, 1) := by decide +kernel
theorem dX8_walk_45 : decode cX8_walk 45 = .ok (.iconst 0, 1) := by decide +kernel
theorem dX8_walk_46 : decode cX8_walk 46 = .ok (.istore_n 2, 1) := by decide +kernel
theorem dX8_walk_47 : decode cX8_walk 47 = .ok (.iload_n 2, 1) := by decide +kernel
theorem dX8_walk_48 : decode cX8_walk 48 = .ok (.aload_n 0, 1) := by decide +kernel
theorem dX8_walk_49 : decode cX8_walk 49 = .ok (.getfield 74, 3) := by decide +kernel
theorem dX8_walk_52 : decode cX8_walk 52 = .ok (.if_icmp .ge 42, 3) := by decide +kernel
theorem dX8_walk_55 : decode cX8_walk 55 = .ok (.aload_n 0, 1) := by decide +kernel
theorem dX8_walk_56 : decode cX8_walk 56 = .ok (.getfield 7, 3) := by decide +kernel
theorem dX8_walk_59 : decode cX8_walk 59 = .ok (.iconst 3, 1) := by decide +kernel
theorem dX8_walk_60 : decode cX8_walk 60 = .ok (.iload_n 2, 1) := by decide +kernel
theorem dX8_walk_61 : decode cX8_walk 61 = .ok (.iadd, 1) := by decide +kernel
theorem dX8_walk_62 : decode cX8_walk 62 = .ok (.aload_n 0, 1) := by decide +kernel
theorem dX8_walk_63 : decode cX8_walk 63 = .ok (.aload_n 0, 1) := by decide +kernel
theorem dX8_walk_64 : decode cX8_walk 64 = .ok (.getfield 7, 3) := by decide +kernel
theorem dX8_walk_67 : decode cX8_walk 67 = .ok (.iconst 3, 1) := by decide +kernel
theorem dX8_walk_68 : decode cX8_walk 68 = .ok (.iload_n 2, 1) := by decide +kernel
theorem dX8_walk_69 : decode cX8_walk 69 = .ok (.iadd, 1) := by decide +kernel
theorem dX8_walk_70 : decode cX8_walk 70 = .ok (.iaload, 1) := by decide +kernel
theorem dX8_walk_71 : decode cX8_walk 71 = .ok (.aload_n 0, 1) := by decide +kernel
theorem dX8_walk_72 : decode cX8_walk 72 = .ok (.getfield 33, 3) := by decide +kernel
theorem dX8_walk_75 : decode cX8_walk 75 = .ok (.iload_n 2, 1) := by decide +kernel
theorem dX8_walk_76 : decode cX8_walk 76 = .ok (.iaload, 1) := by decide +kernel
theorem dX8_walk_77 : decode cX8_walk 77 = .ok (.aload_n 0, 1) := by decide +kernel
theorem dX8_walk_78 : decode cX8_walk 78 = .ok (.getfield 36, 3) := by decide +kernel
theorem dX8_walk_81 : decode cX8_walk 81 = .ok (.iload_n 2, 1) := by decide +kernel
theorem dX8_walk_82 : decode cX8_walk 82 = .ok (.iaload, 1) := by decide +kernel
theorem dX8_walk_83 : decode cX8_walk 83 = .ok (.iload_n 1, 1) := by decide +kernel
theorem dX8_walk_84 : decode cX8_walk 84 = .ok (.invokevirtual 209, 3) := by decide +kernel
theorem dX8_walk_87 : decode cX8_walk 87 = .ok (.iastore, 1) := by decide +kernel
theorem dX8_walk_88 : decode cX8_walk 88 = .ok (.iinc 2 1, 3) := by decide +kernel
theorem dX8_walk_91 : decode cX8_walk 91 = .ok (.goto (-44), 3) := by decide +kernel
theorem dX8_walk_94 : decode cX8_walk 94 = .ok (.aload_n 0, 1) := by decide +kernel
theorem dX8_walk_95 : decode cX8_walk 95 = .ok (.getfield 7, 3) := by decide +kernel
theorem dX8_walk_98 : decode cX8_walk 98 = .ok (.iconst 0, 1) := by decide +kernel
theorem dX8_walk_99 : decode cX8_walk 99 = .ok (.dup2, 1) := by decide +kernel
theorem dX8_walk_100 : decode cX8_walk 100 = .ok (.iaload, 1) := by decide +kernel
theorem dX8_walk_101 : decode cX8_walk 101 = .ok (.iload_n 1, 1) := by decide +kernel
theorem dX8_walk_102 : decode cX8_walk 102 = .ok (.iadd, 1) := by decide +kernel
theorem dX8_walk_103 : decode cX8_walk 103 = .ok (.iastore, 1) := by decide +kernel
theorem dX8_walk_104 : decode cX8_walk 104 = .ok (.aload_n 0, 1) := by decide +kernel
theorem dX8_walk_105 : decode cX8_walk 105 = .ok (.getfield 7, 3) := by decide +kernel
theorem dX8_walk_108 : decode cX8_walk 108 = .ok (.iconst 0, 1) := by decide +kernel
theorem dX8_walk_109 : decode cX8_walk 109 = .ok (.iaload, 1) := by decide +kernel
theorem dX8_walk_110 : decode cX8_walk 110 = .ok (.ireturn, 1) := by decide +kernel
theorem dX8_stop_0 : decode cX8_stop 0 = .ok (.aload_n 0, 1) := by decide +kernel
theorem dX8_stop_1 : decode cX8_stop 1 = .ok (.getfield 7, 3) := by decide +kernel
theorem dX8_stop_4 : decode cX8_stop 4 = .ok (.iconst 1, 1) := by decide +kernel
theorem dX8_stop_5 : decode cX8_stop 5 = .ok (.iaload, 1) := by decide +kernel
theorem dX8_stop_6 : decode cX8_stop 6 = .ok (.iconst 1, 1) := by decide +kernel
theorem dX8_stop_7 : decode cX8_stop 7 = .ok (.if_icmp .ne 6, 3) := by decide +kernel
theorem dX8_stop_10 : decode cX8_stop 10 = .ok (.bipush (-4), 2) := by decide +kernel
theorem dX8_stop_12 : decode cX8_stop 12 = .ok (.ireturn, 1) := by decide +kernel
theorem dX8_stop_13 : decode cX8_stop 13 = .ok (.iconst 0, 1) := by decide +kernel
theorem dX8_stop_14 : decode cX8_stop 14 = .ok (.istore_n 1, 1) := by decide +kernel
theorem dX8_stop_15 : decode cX8_stop 15 = .ok (.iconst 0, 1) := by decide +kernel
theorem dX8_stop_16 : decode cX8_stop 16 = .ok (.istore_n 2, 1) := by decide +kernel
theorem dX8_stop_17 : decode cX8_stop 17 = .ok (.iload_n 2, 1) := by decide +kernel
theorem dX8_stop_18 : decode cX8_stop 18 = .ok (.aload_n 0, 1) := by decide +kernel
theorem dX8_stop_19 : decode cX8_stop 19 = .ok (.getfield 74, 3) := by decide +kernel
theorem dX8_stop_22 : decode cX8_stop 22 = .ok (.if_icmp .ge 32, 3) := by decide +kernel
theorem dX8_stop_25 : decode cX8_stop 25 = .ok (.aload_n 0, 1) := by decide +kernel
theorem dX8_stop_26 : decode cX8_stop 26 = .ok (.getfield 42, 3) := by decide +kernel
theorem dX8_stop_29 : decode cX8_stop 29 = .ok (.iload_n 2, 1) := by decide +kernel
theorem dX8_stop_30 : decode cX8_stop 30 = .ok (.aload_n 0, 1) := by decide +kernel
theorem dX8_stop_31 : decode cX8_stop 31 = .ok (.getfield 7, 3) := by decide +kernel
theorem dX8_stop_34 : decode cX8_stop 34 = .ok (.iconst 3, 1) := by decide +kernel
theorem dX8_stop_35 : decode cX8_stop 35 = .ok (.iload_n 2, 1) := by decide +kernel
theorem dX8_stop_36 : decode cX8_stop 36 = .ok (.iadd, 1) := by decide +kernel
theorem dX8_stop_37 : decode cX8_stop 37 = .ok (.iaload, 1) := by decide +kernel
theorem dX8_stop_38 : decode cX8_stop 38 = .ok (.iastore, 1) := by decide +kernel
theorem dX8_stop_39 : decode cX8_stop 39 = .ok (.iload_n 1, 1) := by decide +kernel
theorem dX8_stop_40 : decode cX8_stop 40 = .ok (.aload_n 0, 1) := by decide +kernel
theorem dX8_stop_41 : decode cX8_stop 41 = .ok (.getfield 39, 3) := by decide +kernel
theorem dX8_stop_44 : decode cX8_stop 44 = .ok (.iload_n 2, 1) := by decide +kernel
theorem dX8_stop_45 : decode cX8_stop 45 = .ok (.iaload, 1) := by decide +kernel
theorem dX8_stop_46 : decode cX8_stop 46 = .ok (.iadd, 1) := by decide +kernel
theorem dX8_stop_47 : decode cX8_stop 47 = .ok (.istore_n 1, 1) := by decide +kernel
theorem dX8_stop_48 : decode cX8_stop 48 = .ok (.iinc 2 1, 3) := by decide +kernel
theorem dX8_stop_51 : decode cX8_stop 51 = .ok (.goto (-34), 3) := by decide +kernel
theorem dX8_stop_54 : decode cX8_stop 54 = .ok (.aload_n 0, 1) := by decide +kernel
theorem dX8_stop_55 : decode cX8_stop 55 = .ok (.aload_n 0, 1) := by decide +kernel
theorem dX8_stop_56 : decode cX8_stop 56 = .ok (.getfield 154, 3) := by decide +kernel
theorem dX8_stop_59 : decode cX8_stop 59 = .ok (.aload_n 0, 1) := by decide +kernel
theorem dX8_stop_60 : decode cX8_stop 60 = .ok (.invokevirtual 213, 3) := by decide +kernel
theorem dX8_stop_63 : decode cX8_stop 63 = .ok (.invokevirtual 216, 3) := by decide +kernel
theorem dX8_stop_66 : decode cX8_stop 66 = .ok (.istore_n 2, 1) := by decide +kernel
theorem dX8_stop_67 : decode cX8_stop 67 = .ok (.iconst 0, 1) := by decide +kernel
theorem dX8_stop_68 : decode cX8_stop 68 = .ok (.istore_n 3, 1) := by decide +kernel
theorem dX8_stop_69 : decode cX8_stop 69 = .ok (.iload_n 3, 1) := by decide +kernel
theorem dX8_stop_70 : decode cX8_stop 70 = .ok (.aload_n 0, 1) := by decide +kernel
theorem dX8_stop_71 : decode cX8_stop 71 = .ok (.getfield 74, 3) := by decide +kernel
theorem dX8_stop_74 : decode cX8_stop 74 = .ok (.if_icmp .ge 104, 3) := by decide +kernel
theorem dX8_stop_77 : decode cX8_stop 77 = .ok (.aload_n 0, 1) := by decide +kernel
theorem dX8_stop_78 : decode cX8_stop 78 = .ok (.getfield 7, 3) := by decide +kernel
theorem dX8_stop_81 : decode cX8_stop 81 = .ok (.bipush 9, 2) := by decide +kernel
theorem dX8_stop_83 : decode cX8_stop 83 = .ok (.iload_n 3, 1) := by decide +kernel
theorem dX8_stop_84 : decode cX8_stop 84 = .ok (.iadd, 1) := by decide +kernel
theorem dX8_stop_85 : decode cX8_stop 85 = .ok (.aload_n 0, 1) := by decide +kernel
theorem dX8_stop_86 : decode cX8_stop 86 = .ok (.getfield 45, 3) := by decide +kernel
theorem dX8_stop_89 : decode cX8_stop 89 = .ok (.iload_n 3, 1) := by decide +kernel
theorem dX8_stop_90 : decode cX8_stop 90 = .ok (.iaload, 1) := by decide +kernel
theorem dX8_stop_91 : decode cX8_stop 91 = .ok (.iastore, 1) := by decide +kernel
theorem dX8_stop_92 : decode cX8_stop 92 = .ok (.aload_n 0, 1) := by decide +kernel
theorem dX8_stop_93 : decode cX8_stop 93 = .ok (.getfield 7, 3) := by decide +kernel
theorem dX8_stop_96 : decode cX8_stop 96 = .ok (.bipush 15, 2) := by decide +kernel
theorem dX8_stop_98 : decode cX8_stop 98 = .ok (.iload_n 3, 1) := by decide +kernel
theorem dX8_stop_99 : decode cX8_stop 99 = .ok (.iadd, 1) := by decide +kernel
theorem dX8_stop_100 : decode cX8_stop 100 = .ok (.aload_n 0, 1) := by decide +kernel
theorem dX8_stop_101 : decode cX8_stop 101 = .ok (.getfield 48, 3) := by decide +kernel
theorem dX8_stop_104 : decode cX8_stop 104 = .ok (.iload_n 3, 1) := by decide +kernel
theorem dX8_stop_105 : decode cX8_stop 105 = .ok (.iaload, 1) := by decide +kernel
theorem dX8_stop_106 : decode cX8_stop 106 = .ok (.iastore, 1) := by decide +kernel
theorem dX8_stop_107 : decode cX8_stop 107 = .ok (.aload_n 0, 1) := by decide +kernel
theorem dX8_stop_108 : decode cX8_stop 108 = .ok (.getfield 7, 3) := by decide +kernel
theorem dX8_stop_111 : decode cX8_stop 111 = .ok (.iconst 3, 1) := by decide +kernel
theorem dX8_stop_112 : decode cX8_stop 112 = .ok (.iload_n 3, 1) := by decide +kernel
theorem dX8_stop_113 : decode cX8_stop 113 = .ok (.iadd, 1) := by decide +kernel
theorem dX8_stop_114 : decode cX8_stop 114 = .ok (.aload_n 0, 1) := by decide +kernel
theorem dX8_stop_115 : decode cX8_stop 115 = .ok (.getfield 45, 3) := by decide +kernel
theorem dX8_stop_118 : decode cX8_stop 118 = .ok (.iload_n 3, 1) := by decide +kernel
theorem dX8_stop_119 : decode cX8_stop 119 = .ok (.iaload, 1) := by decide +kernel
theorem dX8_stop_120 : decode cX8_stop 120 = .ok (.iconst (-1), 1) := by decide +kernel
theorem dX8_stop_121 : decode cX8_stop 121 = .ok (.if_icmp .ne 14, 3) := by decide +kernel
theorem dX8_stop_124 : decode cX8_stop 124 = .ok (.aload_n 0, 1) := by decide +kernel
theorem dX8_stop_125 : decode cX8_stop 125 = .ok (.getfield 7, 3) := by decide +kernel
theorem dX8_stop_128 : decode cX8_stop 128 = .ok (.iconst 3, 1) := by decide +kernel
theorem dX8_stop_129 : decode cX8_stop 129 = .ok (.iload_n 3, 1) := by decide +kernel
theorem dX8_stop_130 : decode cX8_stop 130 = .ok (.iadd, 1) := by decide +kernel
theorem dX8_stop_131 : decode cX8_stop 131 = .ok (.iaload, 1) := by decide +kernel
theorem dX8_stop_132 : decode cX8_stop 132 = .ok (.goto 9, 3) := by decide +kernel
theorem dX8_stop_135 : decode cX8_stop 135 = .ok (.aload_n 0, 1) := by decide +kernel
theorem dX8_stop_136 : decode cX8_stop 136 = .ok (.getfield 45, 3) := by decide +kernel
theorem dX8_stop_139 : decode cX8_stop 139 = .ok (.iload_n 3, 1) := by decide +kernel
theorem dX8_stop_140 : decode cX8_stop 140 = .ok (.iaload, 1) := by decide +kernel
theorem dX8_stop_141 : decode cX8_stop 141 = .ok (.iastore, 1) := by decide +kernel
theorem dX8_stop_142 : decode cX8_stop 142 = .ok (.aload_n 0, 1) := by decide +kernel
theorem dX8_stop_143 : decode cX8_stop 143 = .ok (.getfield 7, 3) := by decide +kernel
theorem dX8_stop_146 : decode cX8_stop 146 = .ok (.bipush 21, 2) := by decide +kernel
theorem dX8_stop_148 : decode cX8_stop 148 = .ok (.iload_n 3, 1) := by decide +kernel
theorem dX8_stop_149 : decode cX8_stop 149 = .ok (.iadd, 1) := by decide +kernel
theorem dX8_stop_150 : decode cX8_stop 150 = .ok (.dup2, 1) := by decide +kernel
theorem dX8_stop_151 : decode cX8_stop 151 = .ok (.iaload, 1) := by decide +kernel
theorem dX8_stop_152 : decode cX8_stop 152 = .ok (.iload_n 2, 1) := by decide +kernel
theorem dX8_stop_153 : decode cX8_stop 153 = .ok (.iload_n 3, 1) := by decide +kernel
theorem dX8_stop_154 : decode cX8_stop 154 = .ok (.invokestatic 130, 3) := by decide +kernel
theorem dX8_stop_157 : decode cX8_stop 157 = .ok (.ifCond .eq 12, 3) := by decide +kernel
theorem dX8_stop_160 : decode cX8_stop 160 = .ok (.iload_n 1, 1) := by decide +kernel
theorem dX8_stop_161 : decode cX8_stop 161 = .ok (.iload_n 2, 1) := by decide +kernel
theorem dX8_stop_162 : decode cX8_stop 162 = .ok (.invokestatic 219, 3) := by decide +kernel
theorem dX8_stop_165 : decode cX8_stop 165 = .ok (.idiv, 1) := by decide +kernel
theorem dX8_stop_166 : decode cX8_stop 166 = .ok (.goto 4, 3) := by decide +kernel
theorem dX8_stop_169 : decode cX8_stop 169 = .ok (.iconst 0, 1) := by decide +kernel
theorem dX8_stop_170 : decode cX8_stop 170 = .ok (.iadd, 1) := by decide +kernel
theorem dX8_stop_171 : decode cX8_stop 171 = .ok (.iastore, 1) := by decide +kernel
theorem dX8_stop_172 : decode cX8_stop 172 = .ok (.iinc 3 1, 3) := by decide +kernel
theorem dX8_stop_175 : decode cX8_stop 175 = .ok (.goto (-106), 3) := by decide +kernel
theorem dX8_stop_178 : decode cX8_stop 178 = .ok (.aload_n 0, 1) := by decide +kernel
theorem dX8_stop_179 : decode cX8_stop 179 = .ok (.getfield 7, 3) := by decide +kernel
theorem dX8_stop_182 : decode cX8_stop 182 = .ok (.iconst 1, 1) := by decide +kernel
theorem dX8_stop_183 : decode cX8_stop 183 = .ok (.iconst 1, 1) := by decide +kernel
theorem dX8_stop_184 : decode cX8_stop 184 = .ok (.iastore, 1) := by decide +kernel
theorem dX8_stop_185 : decode cX8_stop 185 = .ok (.aload_n 0, 1) := by decide +kernel
theorem dX8_stop_186 : decode cX8_stop 186 = .ok (.getfield 7, 3) := by decide +kernel
theorem dX8_stop_189 : decode cX8_stop 189 = .ok (.iconst 2, 1) := by decide +kernel
theorem dX8_stop_190 : decode cX8_stop 190 = .ok (.iload_n 2, 1) := by decide +kernel
theorem dX8_stop_191 : decode cX8_stop 191 = .ok (.iastore, 1) := by decide +kernel
theorem dX8_stop_192 : decode cX8_stop 192 = .ok (.iload_n 2, 1) := by decide +kernel
theorem dX8_stop_193 : decode cX8_stop 193 = .ok (.ireturn, 1) := by decide +kernel
theorem dX8_play_0 : decode cX8_play 0 = .ok (.aload_n 0, 1) := by decide +kernel
theorem dX8_play_1 : decode cX8_play 1 = .ok (.getfield 7, 3) := by decide +kernel
theorem dX8_play_4 : decode cX8_play 4 = .ok (.iconst 1, 1) := by decide +kernel
theorem dX8_play_5 : decode cX8_play 5 = .ok (.iaload, 1) := by decide +kernel
theorem dX8_play_6 : decode cX8_play 6 = .ok (.ifCond .ne 6, 3) := by decide +kernel
theorem dX8_play_9 : decode cX8_play 9 = .ok (.bipush (-4), 2) := by decide +kernel
theorem dX8_play_11 : decode cX8_play 11 = .ok (.ireturn, 1) := by decide +kernel
theorem dX8_play_12 : decode cX8_play 12 = .ok (.iconst 0, 1) := by decide +kernel
theorem dX8_play_13 : decode cX8_play 13 = .ok (.istore_n 1, 1) := by decide +kernel
theorem dX8_play_14 : decode cX8_play 14 = .ok (.iload_n 1, 1) := by decide +kernel
theorem dX8_play_15 : decode cX8_play 15 = .ok (.bipush 6, 2) := by decide +kernel
theorem dX8_play_17 : decode cX8_play 17 = .ok (.if_icmp .ge 29, 3) := by decide +kernel
theorem dX8_play_20 : decode cX8_play 20 = .ok (.aload_n 0, 1) := by decide +kernel
theorem dX8_play_21 : decode cX8_play 21 = .ok (.getfield 7, 3) := by decide +kernel
theorem dX8_play_24 : decode cX8_play 24 = .ok (.bipush 9, 2) := by decide +kernel
theorem dX8_play_26 : decode cX8_play 26 = .ok (.iload_n 1, 1) := by decide +kernel
theorem dX8_play_27 : decode cX8_play 27 = .ok (.iadd, 1) := by decide +kernel
theorem dX8_play_28 : decode cX8_play 28 = .ok (.iconst (-1), 1) := by decide +kernel
theorem dX8_play_29 : decode cX8_play 29 = .ok (.iastore, 1) := by decide +kernel
theorem dX8_play_30 : decode cX8_play 30 = .ok (.aload_n 0, 1) := by decide +kernel
theorem dX8_play_31 : decode cX8_play 31 = .ok (.getfield 7, 3) := by decide +kernel
theorem dX8_play_34 : decode cX8_play 34 = .ok (.bipush 15, 2) := by decide +kernel
theorem dX8_play_36 : decode cX8_play 36 = .ok (.iload_n 1, 1) := by decide +kernel
theorem dX8_play_37 : decode cX8_play 37 = .ok (.iadd, 1) := by decide +kernel
theorem dX8_play_38 : decode cX8_play 38 = .ok (.iconst (-1), 1) := by decide +kernel
theorem dX8_play_39 : decode cX8_play 39 = .ok (.iastore, 1) := by decide +kernel
theorem dX8_play_40 : decode cX8_play 40 = .ok (.iinc 1 1, 3) := by decide +kernel
theorem dX8_play_43 : decode cX8_play 43 = .ok (.goto (-29), 3) := by decide +kernel
theorem dX8_play_46 : decode cX8_play 46 = .ok (.aload_n 0, 1) := by decide +kernel
theorem dX8_play_47 : decode cX8_play 47 = .ok (.getfield 7, 3) := by decide +kernel
theorem dX8_play_50 : decode cX8_play 50 = .ok (.iconst 1, 1) := by decide +kernel
theorem dX8_play_51 : decode cX8_play 51 = .ok (.iconst 0, 1) := by decide +kernel
theorem dX8_play_52 : decode cX8_play 52 = .ok (.iastore, 1) := by decide +kernel
theorem dX8_play_53 : decode cX8_play 53 = .ok (.aload_n 0, 1) := by decide +kernel
