theorem dX0_init_0 : decode cX0_init 0 = .ok (.aload_n 0, 1) := by decide +kernel
theorem dX0_init_1 : decode cX0_init 1 = .ok (.invokespecial 3, 3) := by decide +kernel
theorem dX0_init_4 : decode cX0_init 4 = .ok (.aload_n 0, 1) := by decide +kernel
theorem dX0_init_5 : decode cX0_init 5 = .ok (.bipush 10, 2) := by decide +kernel
theorem dX0_init_7 : decode cX0_init 7 = .ok (.newarray .int, 2) := by decide +kernel
theorem dX0_init_9 : decode cX0_init 9 = .ok (.putfield 9, 3) := by decide +kernel
theorem dX0_init_12 : decode cX0_init 12 = .ok (.aload_n 0, 1) := by decide +kernel
theorem dX0_init_13 : decode cX0_init 13 = .ok (.bipush 10, 2) := by decide +kernel
theorem dX0_init_15 : decode cX0_init 15 = .ok (.newarray .int, 2) := by decide +kernel
theorem dX0_init_17 : decode cX0_init 17 = .ok (.putfield 15, 3) := by decide +kernel
theorem dX0_init_20 : decode cX0_init 20 = .ok (.return_, 1) := by decide +kernel
theorem dX0_narrow_0 : decode cX0_narrow 0 = .ok (.aload_n 0, 1) := by decide +kernel
theorem dX0_narrow_1 : decode cX0_narrow 1 = .ok (.aload_n 1, 1) := by decide +kernel
theorem dX0_narrow_2 : decode cX0_narrow 2 = .ok (.getfield 18, 3) := by decide +kernel
theorem dX0_narrow_5 : decode cX0_narrow 5 = .ok (.bipush 10, 2) := by decide +kernel
theorem dX0_narrow_7 : decode cX0_narrow 7 = .ok (.invokestatic 24, 3) := by decide +kernel
theorem dX0_narrow_10 : decode cX0_narrow 10 = .ok (.putfield 30, 3) := by decide +kernel
theorem dX0_narrow_13 : decode cX0_narrow 13 = .ok (.iconst 0, 1) := by decide +kernel
theorem dX0_narrow_14 : decode cX0_narrow 14 = .ok (.istore_n 2, 1) := by decide +kernel
theorem dX0_narrow_15 : decode cX0_narrow 15 = .ok (.iload_n 2, 1) := by decide +kernel
theorem dX0_narrow_16 : decode cX0_narrow 16 = .ok (.aload_n 0, 1) := by decide +kernel
theorem dX0_narrow_17 : decode cX0_narrow 17 = .ok (.getfield 30, 3) := by decide +kernel
theorem dX0_narrow_20 : decode cX0_narrow 20 = .ok (.if_icmp .ge 31, 3) := by decide +kernel
theorem dX0_narrow_23 : decode cX0_narrow 23 = .ok (.aload_n 0, 1) := by decide +kernel
theorem dX0_narrow_24 : decode cX0_narrow 24 = .ok (.getfield 9, 3) := by decide +kernel
theorem dX0_narrow_27 : decode cX0_narrow 27 = .ok (.iload_n 2, 1) := by decide +kernel
theorem dX0_narrow_28 : decode cX0_narrow 28 = .ok (.aload_n 1, 1) := by decide +kernel
theorem dX0_narrow_29 : decode cX0_narrow 29 = .ok (.iload_n 2, 1) := by decide +kernel
theorem dX0_narrow_30 : decode cX0_narrow 30 = .ok (.invokevirtual 31, 3) := by decide +kernel
theorem dX0_narrow_33 : decode cX0_narrow 33 = .ok (.iastore, 1) := by decide +kernel
theorem dX0_narrow_34 : decode cX0_narrow 34 = .ok (.aload_n 0, 1) := by decide +kernel
theorem dX0_narrow_35 : decode cX0_narrow 35 = .ok (.getfield 15, 3) := by decide +kernel
theorem dX0_narrow_38 : decode cX0_narrow 38 = .ok (.iload_n 2, 1) := by decide +kernel
theorem dX0_narrow_39 : decode cX0_narrow 39 = .ok (.aload_n 1, 1) := by decide +kernel
theorem dX0_narrow_40 : decode cX0_narrow 40 = .ok (.iload_n 2, 1) := by decide +kernel
theorem dX0_narrow_41 : decode cX0_narrow 41 = .ok (.invokevirtual 35, 3) := by decide +kernel
theorem dX0_narrow_44 : decode cX0_narrow 44 = .ok (.iastore, 1) := by decide +kernel
theorem dX0_narrow_45 : decode cX0_narrow 45 = .ok (.iinc 2 1, 3) := by decide +kernel
theorem dX0_narrow_48 : decode cX0_narrow 48 = .ok (.goto (-33), 3) := by decide +kernel
theorem dX0_narrow_51 : decode cX0_narrow 51 = .ok (.iconst 1, 1) := by decide +kernel
theorem dX0_narrow_52 : decode cX0_narrow 52 = .ok (.istore_n 2, 1) := by decide +kernel
theorem dX0_narrow_53 : decode cX0_narrow 53 = .ok (.iconst 0, 1) := by decide +kernel
theorem dX0_narrow_54 : decode cX0_narrow 54 = .ok (.istore_n 3, 1) := by decide +kernel
theorem dX0_narrow_55 : decode cX0_narrow 55 = .ok (.iload_n 3, 1) := by decide +kernel
theorem dX0_narrow_56 : decode cX0_narrow 56 = .ok (.bipush 60, 2) := by decide +kernel
theorem dX0_narrow_58 : decode cX0_narrow 58 = .ok (.if_icmp .ge 45, 3) := by decide +kernel
theorem dX0_narrow_61 : decode cX0_narrow 61 = .ok (.iload_n 2, 1) := by decide +kernel
theorem dX0_narrow_62 : decode cX0_narrow 62 = .ok (.ifCond .eq 41, 3) := by decide +kernel
theorem dX0_narrow_65 : decode cX0_narrow 65 = .ok (.iconst 0, 1) := by decide +kernel
theorem dX0_narrow_66 : decode cX0_narrow 66 = .ok (.istore_n 2, 1) := by decide +kernel
theorem dX0_narrow_67 : decode cX0_narrow 67 = .ok (.iconst 0, 1) := by decide +kernel
theorem dX0_narrow_68 : decode cX0_narrow 68 = .ok (.istore 4, 2) := by decide +kernel
theorem dX0_narrow_70 : decode cX0_narrow 70 = .ok (.iload 4, 2) := by decide +kernel
theorem dX0_narrow_72 : decode cX0_narrow 72 = .ok (.aload_n 1, 1) := by decide +kernel
theorem dX0_narrow_73 : decode cX0_narrow 73 = .ok (.getfield 38, 3) := by decide +kernel
theorem dX0_narrow_76 : decode cX0_narrow 76 = .ok (.if_icmp .ge 21, 3) := by decide +kernel
theorem dX0_narrow_79 : decode cX0_narrow 79 = .ok (.aload_n 0, 1) := by decide +kernel
theorem dX0_narrow_80 : decode cX0_narrow 80 = .ok (.aload_n 1, 1) := by decide +kernel
theorem dX0_narrow_81 : decode cX0_narrow 81 = .ok (.iload 4, 2) := by decide +kernel
theorem dX0_narrow_83 : decode cX0_narrow 83 = .ok (.invokevirtual 41, 3) := by decide +kernel
theorem dX0_narrow_86 : decode cX0_narrow 86 = .ok (.ifCond .eq 5, 3) := by decide +kernel
theorem dX0_narrow_89 : decode cX0_narrow 89 = .ok (.iconst 1, 1) := by decide +kernel
theorem dX0_narrow_90 : decode cX0_narrow 90 = .ok (.istore_n 2, 1) := by decide +kernel
theorem dX0_narrow_91 : decode cX0_narrow 91 = .ok (.iinc 4 1, 3) := by decide +kernel
theorem dX0_narrow_94 : decode cX0_narrow 94 = .ok (.goto (-24), 3) := by decide +kernel
theorem dX0_narrow_97 : decode cX0_narrow 97 = .ok (.iinc 3 1, 3) := by decide +kernel
theorem dX0_narrow_100 : decode cX0_narrow 100 = .ok (.goto (-45), 3) := by decide +kernel
theorem dX0_narrow_103 : decode cX0_narrow 103 = .ok (.return_, 1) := by decide +kernel
theorem dX0_narrowByRow_0 : decode cX0_narrowByRow 0 = .ok (.iconst 0, 1) := by decide +kernel
theorem dX0_narrowByRow_1 : decode cX0_narrowByRow 1 = .ok (.istore_n 3, 1) := by decide +kernel
theorem dX0_narrowByRow_2 : decode cX0_narrowByRow 2 = .ok (.iconst 0, 1) := by decide +kernel
theorem dX0_narrowByRow_3 : decode cX0_narrowByRow 3 = .ok (.istore 4, 2) := by decide +kernel
theorem dX0_narrowByRow_5 : decode cX0_narrowByRow 5 = .ok (.iconst 0, 1) := by decide +kernel
theorem dX0_narrowByRow_6 : decode cX0_narrowByRow 6 = .ok (.istore 5, 2) := by decide +kernel
theorem dX0_narrowByRow_8 : decode cX0_narrowByRow 8 = .ok (.iload 5, 2) := by decide +kernel
theorem dX0_narrowByRow_10 : decode cX0_narrowByRow 10 = .ok (.aload_n 0, 1) := by decide +kernel
theorem dX0_narrowByRow_11 : decode cX0_narrowByRow 11 = .ok (.getfield 30, 3) := by decide +kernel
theorem dX0_narrowByRow_14 : decode cX0_narrowByRow 14 = .ok (.if_icmp .ge 42, 3) := by decide +kernel
theorem dX0_narrowByRow_17 : decode cX0_narrowByRow 17 = .ok (.aload_n 1, 1) := by decide +kernel
theorem dX0_narrowByRow_18 : decode cX0_narrowByRow 18 = .ok (.iload_n 2, 1) := by decide +kernel
theorem dX0_narrowByRow_19 : decode cX0_narrowByRow 19 = .ok (.iload 5, 2) := by decide +kernel
theorem dX0_narrowByRow_21 : decode cX0_narrowByRow 21 = .ok (.invokevirtual 45, 3) := by decide +kernel
theorem dX0_narrowByRow_24 : decode cX0_narrowByRow 24 = .ok (.istore 6, 2) := by decide +kernel
theorem dX0_narrowByRow_26 : decode cX0_narrowByRow 26 = .ok (.iload_n 3, 1) := by decide +kernel
theorem dX0_narrowByRow_27 : decode cX0_narrowByRow 27 = .ok (.aload_n 0, 1) := by decide +kernel
theorem dX0_narrowByRow_28 : decode cX0_narrowByRow 28 = .ok (.iload 6, 2) := by decide +kernel
theorem dX0_narrowByRow_30 : decode cX0_narrowByRow 30 = .ok (.iload 5, 2) := by decide +kernel
theorem dX0_narrowByRow_32 : decode cX0_narrowByRow 32 = .ok (.invokevirtual 48, 3) := by decide +kernel
theorem dX0_narrowByRow_35 : decode cX0_narrowByRow 35 = .ok (.iadd, 1) := by decide +kernel
theorem dX0_narrowByRow_36 : decode cX0_narrowByRow 36 = .ok (.istore_n 3, 1) := by decide +kernel
theorem dX0_narrowByRow_37 : decode cX0_narrowByRow 37 = .ok (.iload 4, 2) := by decide +kernel
theorem dX0_narrowByRow_39 : decode cX0_narrowByRow 39 = .ok (.aload_n 0, 1) := by decide +kernel
theorem dX0_narrowByRow_40 : decode cX0_narrowByRow 40 = .ok (.iload 6, 2) := by decide +kernel
theorem dX0_narrowByRow_42 : decode cX0_narrowByRow 42 = .ok (.iload 5, 2) := by decide +kernel
theorem dX0_narrowByRow_44 : decode cX0_narrowByRow 44 = .ok (.invokevirtual 51, 3) := by decide +kernel
theorem dX0_narrowByRow_47 : decode cX0_narrowByRow 47 = .ok (.iadd, 1) := by decide +kernel
theorem dX0_narrowByRow_48 : decode cX0_narrowByRow 48 = .ok (.istore 4, 2) := by decide +kernel
theorem dX0_narrowByRow_50 : decode cX0_narrowByRow 50 = .ok (.iinc 5 1, 3) := by decide +kernel
theorem dX0_narrowByRow_53 : decode cX0_narrowByRow 53 = .ok (.goto (-45), 3) := by decide +kernel
theorem dX0_narrowByRow_56 : decode cX0_narrowByRow 56 = .ok (.aload_n 1, 1) := by decide +kernel
theorem dX0_narrowByRow_57 : decode cX0_narrowByRow 57 = .ok (.iload_n 2, 1) := by decide +kernel
theorem dX0_narrowByRow_58 : decode cX0_narrowByRow 58 = .ok (.invokevirtual 54, 3) := by decide +kernel
theorem dX0_narrowByRow_61 : decode cX0_narrowByRow 61 = .ok (.istore 5, 2) := by decide +kernel
theorem dX0_narrowByRow_63 : decode cX0_narrowByRow 63 = .ok (.iconst 0, 1) := by decide +kernel
theorem dX0_narrowByRow_64 : decode cX0_narrowByRow 64 = .ok (.istore 6, 2) := by decide +kernel
theorem dX0_narrowByRow_66 : decode cX0_narrowByRow 66 = .ok (.iconst 0, 1) := by decide +kernel
theorem dX0_narrowByRow_67 : decode cX0_narrowByRow 67 = .ok (.istore 7, 2) := by decide +kernel
theorem dX0_narrowByRow_69 : decode cX0_narrowByRow 69 = .ok (.iload 7, 2) := by decide +kernel
theorem dX0_narrowByRow_71 : decode cX0_narrowByRow 71 = .ok (.aload_n 0, 1) := by decide +kernel
theorem dX0_narrowByRow_72 : decode cX0_narrowByRow 72 = .ok (.getfield 30, 3) := by decide +kernel
theorem dX0_narrowByRow_75 : decode cX0_narrowByRow 75 = .ok (.if_icmp .ge 100, 3) := by decide +kernel
theorem dX0_narrowByRow_78 : decode cX0_narrowByRow 78 = .ok (.aload_n 1, 1) := by decide +kernel
theorem dX0_narrowByRow_79 : decode cX0_narrowByRow 79 = .ok (.iload_n 2, 1) := by decide +kernel
theorem dX0_narrowByRow_80 : decode cX0_narrowByRow 80 = .ok (.iload 7, 2) := by decide +kernel
theorem dX0_narrowByRow_82 : decode cX0_narrowByRow 82 = .ok (.invokevirtual 45, 3) := by decide +kernel
theorem dX0_narrowByRow_85 : decode cX0_narrowByRow 85 = .ok (.istore 8, 2) := by decide +kernel
theorem dX0_narrowByRow_87 : decode cX0_narrowByRow 87 = .ok (.iload 8, 2) := by decide +kernel
theorem dX0_narrowByRow_89 : decode cX0_narrowByRow 89 = .ok (.ifCond .ne 6, 3) := by decide +kernel
theorem dX0_narrowByRow_92 : decode cX0_narrowByRow 92 = .ok (.goto 77, 3) := by decide +kernel
theorem dX0_narrowByRow_95 : decode cX0_narrowByRow 95 = .ok (.iload_n 3, 1) := by decide +kernel
theorem dX0_narrowByRow_96 : decode cX0_narrowByRow 96 = .ok (.aload_n 0, 1) := by decide +kernel
theorem dX0_narrowByRow_97 : decode cX0_narrowByRow 97 = .ok (.iload 8, 2) := by decide +kernel
theorem dX0_narrowByRow_99 : decode cX0_narrowByRow 99 = .ok (.iload 7, 2) := by decide +kernel
theorem dX0_narrowByRow_101 : decode cX0_narrowByRow 101 = .ok (.invokevirtual 48, 3) := by decide +kernel
theorem dX0_narrowByRow_104 : decode cX0_narrowByRow 104 = .ok (.isub, 1) := by decide +kernel
theorem dX0_narrowByRow_105 : decode cX0_narrowByRow 105 = .ok (.istore 9, 2) := by decide +kernel
theorem dX0_narrowByRow_107 : decode cX0_narrowByRow 107 = .ok (.iload 4, 2) := by decide +kernel
theorem dX0_narrowByRow_109 : decode cX0_narrowByRow 109 = .ok (.aload_n 0, 1) := by decide +kernel
theorem dX0_narrowByRow_110 : decode cX0_narrowByRow 110 = .ok (.iload 8, 2) := by decide +kernel
theorem dX0_narrowByRow_112 : decode cX0_narrowByRow 112 = .ok (.iload 7, 2) := by decide +kernel
theorem dX0_narrowByRow_114 : decode cX0_narrowByRow 114 = .ok (.invokevirtual 51, 3) := by decide +kernel
theorem dX0_narrowByRow_117 : decode cX0_narrowByRow 117 = .ok (.isub, 1) := by decide +kernel
theorem dX0_narrowByRow_118 : decode cX0_narrowByRow 118 = .ok (.istore 10, 2) := by decide +kernel
theorem dX0_narrowByRow_120 : decode cX0_narrowByRow 120 = .ok (.aload_n 0, 1) := by decide +kernel
theorem dX0_narrowByRow_121 : decode cX0_narrowByRow 121 = .ok (.iload 7, 2) := by decide +kernel
theorem dX0_narrowByRow_123 : decode cX0_narrowByRow 123 = .ok (.iload 8, 2) := by decide +kernel
theorem dX0_narrowByRow_125 : decode cX0_narrowByRow 125 = .ok (.iload 5, 2) := by decide +kernel
theorem dX0_narrowByRow_127 : decode cX0_narrowByRow 127 = .ok (.iload 10, 2) := by decide +kernel
theorem dX0_narrowByRow_129 : decode cX0_narrowByRow 129 = .ok (.isub, 1) := by decide +kernel
theorem dX0_narrowByRow_130 : decode cX0_narrowByRow 130 = .ok (.iload 5, 2) := by decide +kernel
theorem dX0_narrowByRow_132 : decode cX0_narrowByRow 132 = .ok (.iload 9, 2) := by decide +kernel
theorem dX0_narrowByRow_134 : decode cX0_narrowByRow 134 = .ok (.isub, 1) := by decide +kernel
theorem dX0_narrowByRow_135 : decode cX0_narrowByRow 135 = .ok (.invokevirtual 57, 3) := by decide +kernel
theorem dX0_narrowByRow_138 : decode cX0_narrowByRow 138 = .ok (.ifCond .eq 6, 3) := by decide +kernel
theorem dX0_narrowByRow_141 : decode cX0_narrowByRow 141 = .ok (.iconst 1, 1) := by decide +kernel
theorem dX0_narrowByRow_142 : decode cX0_narrowByRow 142 = .ok (.istore 6, 2) := by decide +kernel
theorem dX0_narrowByRow_144 : decode cX0_narrowByRow 144 = .ok (.iload 9, 2) := by decide +kernel
theorem dX0_narrowByRow_146 : decode cX0_narrowByRow 146 = .ok (.aload_n 0, 1) := by decide +kernel
theorem dX0_narrowByRow_147 : decode cX0_narrowByRow 147 = .ok (.iload 8, 2) := by decide +kernel
theorem dX0_narrowByRow_149 : decode cX0_narrowByRow 149 = .ok (.iload 7, 2) := by decide +kernel
theorem dX0_narrowByRow_151 : decode cX0_narrowByRow 151 = .ok (.invokevirtual 48, 3) := by decide +kernel
theorem dX0_narrowByRow_154 : decode cX0_narrowByRow 154 = .ok (.iadd, 1) := by decide +kernel
theorem dX0_narrowByRow_155 : decode cX0_narrowByRow 155 = .ok (.istore_n 3, 1) := by decide +kernel
theorem dX0_narrowByRow_156 : decode cX0_narrowByRow 156 = .ok (.iload 10, 2) := by decide +kernel
theorem dX0_narrowByRow_158 : decode cX0_narrowByRow 158 = .ok (.aload_n 0, 1) := by decide +kernel
theorem dX0_narrowByRow_159 : decode cX0_narrowByRow 159 = .ok (.iload 8, 2) := by decide +kernel
theorem dX0_narrowByRow_161 : decode cX0_narrowByRow 161 = .ok (.iload 7, 2) := by decide +kernel
theorem dX0_narrowByRow_163 : decode cX0_narrowByRow 163 = .ok (.invokevirtual 51, 3) := by decide +kernel
theorem dX0_narrowByRow_166 : decode cX0_narrowByRow 166 = .ok (.iadd, 1) := by decide +kernel
theorem dX0_narrowByRow_167 : decode cX0_narrowByRow 167 = .ok (.istore 4, 2) := by decide +kernel
theorem dX0_narrowByRow_169 : decode cX0_narrowByRow 169 = .ok (.iinc 7 1, 3) := by decide +kernel
theorem dX0_narrowByRow_172 : decode cX0_narrowByRow 172 = .ok (.goto (-103), 3) := by decide +kernel
theorem dX0_narrowByRow_175 : decode cX0_narrowByRow 175 = .ok (.iload 6, 2) := by decide +kernel
theorem dX0_narrowByRow_177 : decode cX0_narrowByRow 177 = .ok (.ireturn, 1) := by decide +kernel
theorem dX0_narrowOne_0 : decode cX0_narrowOne 0 = .ok (.iload_n 1, 1) := by decide +kernel
theorem dX0_narrowOne_1 : decode cX0_narrowOne 1 = .ok (.bipush 10, 2) := by decide +kernel
theorem dX0_narrowOne_3 : decode cX0_narrowOne 3 = .ok (.invokestatic 61, 3) := by decide +kernel
theorem dX0_narrowOne_6 : decode cX0_narrowOne 6 = .ok (.ifCond .eq 7, 3) := by decide +kernel
theorem dX0_narrowOne_9 : decode cX0_narrowOne 9 = .ok (.iload_n 2, 1) := by decide +kernel
theorem dX0_narrowOne_10 : decode cX0_narrowOne 10 = .ok (.ifCond .ne 5, 3) := by decide +kernel
theorem dX0_narrowOne_13 : decode cX0_narrowOne 13 = .ok (.iconst 0, 1) := by decide +kernel
theorem dX0_narrowOne_14 : decode cX0_narrowOne 14 = .ok (.ireturn, 1) := by decide +kernel
theorem dX0_narrowOne_15 : decode cX0_narrowOne 15 = .ok (.iload_n 2, 1) := by decide +kernel
theorem dX0_narrowOne_16 : decode cX0_narrowOne 16 = .ok (.ifCond .le 8, 3) := by decide +kernel
theorem dX0_narrowOne_19 : decode cX0_narrowOne 19 = .ok (.iload_n 3, 1) := by decide +kernel
theorem dX0_narrowOne_20 : decode cX0_narrowOne 20 = .ok (.ineg, 1) := by decide +kernel
theorem dX0_narrowOne_21 : decode cX0_narrowOne 21 = .ok (.goto 6, 3) := by decide +kernel
theorem dX0_narrowOne_24 : decode cX0_narrowOne 24 = .ok (.iload 4, 2) := by decide +kernel
theorem dX0_narrowOne_26 : decode cX0_narrowOne 26 = .ok (.ineg, 1) := by decide +kernel
theorem dX0_narrowOne_27 : decode cX0_narrowOne 27 = .ok (.iload_n 2, 1) := by decide +kernel
theorem dX0_narrowOne_28 : decode cX0_narrowOne 28 = .ok (.invokestatic 65, 3) := by decide +kernel
theorem dX0_narrowOne_31 : decode cX0_narrowOne 31 = .ok (.ineg, 1) := by decide +kernel
theorem dX0_narrowOne_32 : decode cX0_narrowOne 32 = .ok (.istore 5, 2) := by decide +kernel
theorem dX0_narrowOne_34 : decode cX0_narrowOne 34 = .ok (.iload_n 2, 1) := by decide +kernel
theorem dX0_narrowOne_35 : decode cX0_narrowOne 35 = .ok (.ifCond .le 8, 3) := by decide +kernel
theorem dX0_narrowOne_38 : decode cX0_narrowOne 38 = .ok (.iload 4, 2) := by decide +kernel
theorem dX0_narrowOne_40 : decode cX0_narrowOne 40 = .ok (.goto 4, 3) := by decide +kernel
theorem dX0_narrowOne_43 : decode cX0_narrowOne 43 = .ok (.iload_n 3, 1) := by decide +kernel
theorem dX0_narrowOne_44 : decode cX0_narrowOne 44 = .ok (.iload_n 2, 1) := by decide +kernel
theorem dX0_narrowOne_45 : decode cX0_narrowOne 45 = .ok (.invokestatic 65, 3) := by decide +kernel
theorem dX0_narrowOne_48 : decode cX0_narrowOne 48 = .ok (.istore 6, 2) := by decide +kernel
theorem dX0_narrowOne_50 : decode cX0_narrowOne 50 = .ok (.iconst 0, 1) := by decide +kernel
theorem dX0_narrowOne_51 : decode cX0_narrowOne 51 = .ok (.istore 7, 2) := by decide +kernel
theorem dX0_narrowOne_53 : decode cX0_narrowOne 53 = .ok (.iload 5, 2) := by decide +kernel
theorem dX0_narrowOne_55 : decode cX0_narrowOne 55 = .ok (.aload_n 0, 1) := by decide +kernel
theorem dX0_narrowOne_56 : decode cX0_narrowOne 56 = .ok (.getfield 9, 3) := by decide +kernel
theorem dX0_narrowOne_59 : decode cX0_narrowOne 59 = .ok (.iload_n 1, 1) := by decide +kernel
theorem dX0_narrowOne_60 : decode cX0_narrowOne 60 = .ok (.iaload, 1) := by decide +kernel
theorem dX0_narrowOne_61 : decode cX0_narrowOne 61 = .ok (.if_icmp .le 14, 3) := by decide +kernel
theorem dX0_narrowOne_64 : decode cX0_narrowOne 64 = .ok (.aload_n 0, 1) := by decide +kernel
theorem dX0_narrowOne_65 : decode cX0_narrowOne 65 = .ok (.getfield 9, 3) := by decide +kernel
theorem dX0_narrowOne_68 : decode cX0_narrowOne 68 = .ok (.iload_n 1, 1) := by decide +kernel
theorem dX0_narrowOne_69 : decode cX0_narrowOne 69 = .ok (.iload 5, 2) := by decide +kernel
theorem dX0_narrowOne_71 : decode cX0_narrowOne 71 = .ok (.iastore, 1) := by decide +kernel
theorem dX0_narrowOne_72 : decode cX0_narrowOne 72 = .ok (.iconst 1, 1) := by decide +kernel
theorem dX0_narrowOne_73 : decode cX0_narrowOne 73 = .ok (.istore 7, 2) := by decide +kernel
theorem dX0_narrowOne_75 : decode cX0_narrowOne 75 = .ok (.iload 6, 2) := by decide +kernel
theorem dX0_narrowOne_77 : decode cX0_narrowOne 77 = .ok (.aload_n 0, 1) := by decide +kernel
theorem dX0_narrowOne_78 : decode cX0_narrowOne 78 = .ok (.getfield 15, 3) := by decide +kernel
theorem dX0_narrowOne_81 : decode cX0_narrowOne 81 = .ok (.iload_n 1, 1) := by decide +kernel
theorem dX0_narrowOne_82 : decode cX0_narrowOne 82 = .ok (.iaload, 1) := by decide +kernel
theorem dX0_narrowOne_83 : decode cX0_narrowOne 83 = .ok (.if_icmp .ge 14, 3) := by decide +kernel
theorem dX0_narrowOne_86 : decode cX0_narrowOne 86 = .ok (.aload_n 0, 1) := by decide +kernel
theorem dX0_narrowOne_87 : decode cX0_narrowOne 87 = .ok (.getfield 15, 3) := by decide +kernel
theorem dX0_narrowOne_90 : decode cX0_narrowOne 90 = .ok (.iload_n 1, 1) := by decide +kernel
theorem dX0_narrowOne_91 : decode cX0_narrowOne 91 = .ok (.iload 6, 2) := by decide +kernel
theorem dX0_narrowOne_93 : decode cX0_narrowOne 93 = .ok (.iastore, 1) := by decide +kernel
theorem dX0_narrowOne_94 : decode cX0_narrowOne 94 = .ok (.iconst 1, 1) := by decide +kernel
theorem dX0_narrowOne_95 : decode cX0_narrowOne 95 = .ok (.istore 7, 2) := by decide +kernel
theorem dX0_narrowOne_97 : decode cX0_narrowOne 97 = .ok (.iload 7, 2) := by decide +kernel
theorem dX0_narrowOne_99 : decode cX0_narrowOne 99 = .ok (.ireturn, 1) := by decide +kernel
theorem dX0_lowEnd_0 : decode cX0_lowEnd 0 = .ok (.iload_n 1, 1) := by decide +kernel
theorem dX0_lowEnd_1 : decode cX0_lowEnd 1 = .ok (.iload_n 1, 1) := by decide +kernel
theorem dX0_lowEnd_2 : decode cX0_lowEnd 2 = .ok (.ifCond .le 11, 3) := by decide +kernel
theorem dX0_lowEnd_5 : decode cX0_lowEnd 5 = .ok (.aload_n 0, 1) := by decide +kernel
theorem dX0_lowEnd_6 : decode cX0_lowEnd 6 = .ok (.iload_n 2, 1) := by decide +kernel
theorem dX0_lowEnd_7 : decode cX0_lowEnd 7 = .ok (.invokevirtual 68, 3) := by decide +kernel
theorem dX0_lowEnd_10 : decode cX0_lowEnd 10 = .ok (.goto 8, 3) := by decide +kernel
theorem dX0_lowEnd_13 : decode cX0_lowEnd 13 = .ok (.aload_n 0, 1) := by decide +kernel
theorem dX0_lowEnd_14 : decode cX0_lowEnd 14 = .ok (.iload_n 2, 1) := by decide +kernel
theorem dX0_lowEnd_15 : decode cX0_lowEnd 15 = .ok (.invokevirtual 71, 3) := by decide +kernel
theorem dX0_lowEnd_18 : decode cX0_lowEnd 18 = .ok (.imul, 1) := by decide +kernel
theorem dX0_lowEnd_19 : decode cX0_lowEnd 19 = .ok (.ireturn, 1) := by decide +kernel
theorem dX0_highEnd_0 : decode cX0_highEnd 0 = .ok (.iload_n 1, 1) := by decide +kernel
theorem dX0_highEnd_1 : decode cX0_highEnd 1 = .ok (.iload_n 1, 1) := by decide +kernel
theorem dX0_highEnd_2 : decode cX0_highEnd 2 = .ok (.ifCond .le 11, 3) := by decide +kernel
theorem dX0_highEnd_5 : decode cX0_highEnd 5 = .ok (.aload_n 0, 1) := by decide +kernel
theorem dX0_highEnd_6 : decode cX0_highEnd 6 = .ok (.iload_n 2, 1) := by decide +kernel
theorem dX0_highEnd_7 : decode cX0_highEnd 7 = .ok (.invokevirtual 71, 3) := by decide +kernel
theorem dX0_highEnd_10 : decode cX0_highEnd 10 = .ok (.goto 8, 3) := by decide +kernel
theorem dX0_highEnd_13 : decode cX0_highEnd 13 = .ok (.aload_n 0, 1) := by decide +kernel
theorem dX0_highEnd_14 : decode cX0_highEnd 14 = .ok (.iload_n 2, 1) := by decide +kernel
theorem dX0_highEnd_15 : decode cX0_highEnd 15 = .ok (.invokevirtual 68, 3) := by decide +kernel
theorem dX0_highEnd_18 : decode cX0_highEnd 18 = .ok (.imul, 1) := by decide +kernel
theorem dX0_highEnd_19 : decode cX0_highEnd 19 = .ok (.ireturn, 1) := by decide +kernel
theorem dX0_leastOf_0 : decode cX0_leastOf 0 = .ok (.iload_n 1, 1) := by decide +kernel
theorem dX0_leastOf_1 : decode cX0_leastOf 1 = .ok (.bipush 10, 2) := by decide +kernel
theorem dX0_leastOf_3 : decode cX0_leastOf 3 = .ok (.invokestatic 61, 3) := by decide +kernel
theorem dX0_leastOf_6 : decode cX0_leastOf 6 = .ok (.ifCond .eq 12, 3) := by decide +kernel
theorem dX0_leastOf_9 : decode cX0_leastOf 9 = .ok (.aload_n 0, 1) := by decide +kernel
theorem dX0_leastOf_10 : decode cX0_leastOf 10 = .ok (.getfield 9, 3) := by decide +kernel
theorem dX0_leastOf_13 : decode cX0_leastOf 13 = .ok (.iload_n 1, 1) := by decide +kernel
theorem dX0_leastOf_14 : decode cX0_leastOf 14 = .ok (.iaload, 1) := by decide +kernel
theorem dX0_leastOf_15 : decode cX0_leastOf 15 = .ok (.goto 4, 3) := by decide +kernel
theorem dX0_leastOf_18 : decode cX0_leastOf 18 = .ok (.iconst 0, 1) := by decide +kernel
theorem dX0_leastOf_19 : decode cX0_leastOf 19 = .ok (.ireturn, 1) := by decide +kernel
theorem dX0_mostOf_0 : decode cX0_mostOf 0 = .ok (.iload_n 1, 1) := by decide +kernel
theorem dX0_mostOf_1 : decode cX0_mostOf 1 = .ok (.bipush 10, 2) := by decide +kernel
theorem dX0_mostOf_3 : decode cX0_mostOf 3 = .ok (.invokestatic 61, 3) := by decide +kernel
theorem dX0_mostOf_6 : decode cX0_mostOf 6 = .ok (.ifCond .eq 12, 3) := by decide +kernel
theorem dX0_mostOf_9 : decode cX0_mostOf 9 = .ok (.aload_n 0, 1) := by decide +kernel
theorem dX0_mostOf_10 : decode cX0_mostOf 10 = .ok (.getfield 15, 3) := by decide +kernel
theorem dX0_mostOf_13 : decode cX0_mostOf 13 = .ok (.iload_n 1, 1) := by decide +kernel
theorem dX0_mostOf_14 : decode cX0_mostOf 14 = .ok (.iaload, 1) := by decide +kernel
theorem dX0_mostOf_15 : decode cX0_mostOf 15 = .ok (.goto 4, 3) := by decide +kernel
theorem dX0_mostOf_18 : decode cX0_mostOf 18 = .ok (.iconst 0, 1) := by decide +kernel
theorem dX0_mostOf_19 : decode cX0_mostOf 19 = .ok (.ireturn, 1) := by decide +kernel
theorem dX0_widthOf_0 : decode cX0_widthOf 0 = .ok (.aload_n 0, 1) := by decide +kernel
theorem dX0_widthOf_1 : decode cX0_widthOf 1 = .ok (.iload_n 1, 1) := by decide +kernel
theorem dX0_widthOf_2 : decode cX0_widthOf 2 = .ok (.invokevirtual 71, 3) := by decide +kernel
theorem dX0_widthOf_5 : decode cX0_widthOf 5 = .ok (.aload_n 0, 1) := by decide +kernel
theorem dX0_widthOf_6 : decode cX0_widthOf 6 = .ok (.iload_n 1, 1) := by decide +kernel
theorem dX0_widthOf_7 : decode cX0_widthOf 7 = .ok (.invokevirtual 68, 3) := by decide +kernel
theorem dX0_widthOf_10 : decode cX0_widthOf 10 = .ok (.isub, 1) := by decide +kernel
theorem dX0_widthOf_11 : decode cX0_widthOf 11 = .ok (.iconst 1, 1) := by decide +kernel
theorem dX0_widthOf_12 : decode cX0_widthOf 12 = .ok (.iadd, 1) := by decide +kernel
theorem dX0_widthOf_13 : decode cX0_widthOf 13 = .ok (.ireturn, 1) := by decide +kernel
theorem dX1_init_0 : decode cX1_init 0 = .ok (.aload_n 0, 1) := by decide +kernel
theorem dX1_init_1 : decode cX1_init 1 = .ok (.invokespecial 3, 3) := by decide +kernel
theorem dX1_init_4 : decode cX1_init 4 = .ok (.aload_n 0, 1) := by decide +kernel
theorem dX1_init_5 : decode cX1_init 5 = .ok (.iload_n 1, 1) := by decide +kernel
theorem dX1_init_6 : decode cX1_init 6 = .ok (.ifCond .ge 7, 3) := by decide +kernel
theorem dX1_init_9 : decode cX1_init 9 = .ok (.iconst 0, 1) := by decide +kernel
theorem dX1_init_10 : decode cX1_init 10 = .ok (.goto 4, 3) := by decide +kernel
theorem dX1_init_13 : decode cX1_init 13 = .ok (.iload_n 1, 1) := by decide +kernel
theorem dX1_init_14 : decode cX1_init 14 = .ok (.newarray .int, 2) := by decide +kernel
theorem dX1_init_16 : decode cX1_init 16 = .ok (.putfield 9, 3) := by decide +kernel
theorem dX1_init_19 : decode cX1_init 19 = .ok (.return_, 1) := by decide +kernel
theorem dX2_init_0 : decode cX2_init 0 = .ok (.aload_n 0, 1) := by decide +kernel
theorem dX2_init_1 : decode cX2_init 1 = .ok (.invokespecial 3, 3) := by decide +kernel
theorem dX2_init_4 : decode cX2_init 4 = .ok (.aload_n 0, 1) := by decide +kernel
theorem dX2_init_5 : decode cX2_init 5 = .ok (.bipush 8, 2) := by decide +kernel
theorem dX2_init_7 : decode cX2_init 7 = .ok (.newarray .int, 2) := by decide +kernel
theorem dX2_init_9 : decode cX2_init 9 = .ok (.putfield 9, 3) := by decide +kernel
theorem dX2_init_12 : decode cX2_init 12 = .ok (.return_, 1) := by decide +kernel
theorem dX2_misfitOf_0 : decode cX2_misfitOf 0 = .ok (.iload_n 0, 1) := by decide +kernel
theorem dX2_misfitOf_1 : decode cX2_misfitOf 1 = .ok (.ifCond .eq 16, 3) := by decide +kernel
theorem dX2_misfitOf_4 : decode cX2_misfitOf 4 = .ok (.iload_n 0, 1) := by decide +kernel
theorem dX2_misfitOf_5 : decode cX2_misfitOf 5 = .ok (.iconst 1, 1) := by decide +kernel
theorem dX2_misfitOf_6 : decode cX2_misfitOf 6 = .ok (.if_icmp .eq 11, 3) := by decide +kernel
theorem dX2_misfitOf_9 : decode cX2_misfitOf 9 = .ok (.iload_n 0, 1) := by decide +kernel
theorem dX2_misfitOf_10 : decode cX2_misfitOf 10 = .ok (.iconst 2, 1) := by decide +kernel
theorem dX2_misfitOf_11 : decode cX2_misfitOf 11 = .ok (.if_icmp .eq 6, 3) := by decide +kernel
theorem dX2_misfitOf_14 : decode cX2_misfitOf 14 = .ok (.bipush (-2), 2) := by decide +kernel
theorem dX2_misfitOf_16 : decode cX2_misfitOf 16 = .ok (.ireturn, 1) := by decide +kernel
theorem dX2_misfitOf_17 : decode cX2_misfitOf 17 = .ok (.iload_n 0, 1) := by decide +kernel
theorem dX2_misfitOf_18 : decode cX2_misfitOf 18 = .ok (.ifCond .eq 7, 3) := by decide +kernel
theorem dX2_misfitOf_21 : decode cX2_misfitOf 21 = .ok (.iconst 1, 1) := by decide +kernel
theorem dX2_misfitOf_22 : decode cX2_misfitOf 22 = .ok (.goto 4, 3) := by decide +kernel
theorem dX2_misfitOf_25 : decode cX2_misfitOf 25 = .ok (.iconst 0, 1) := by decide +kernel
theorem dX2_misfitOf_26 : decode cX2_misfitOf 26 = .ok (.istore_n 3, 1) := by decide +kernel
theorem dX2_misfitOf_27 : decode cX2_misfitOf 27 = .ok (.iload_n 1, 1) := by decide +kernel
theorem dX2_misfitOf_28 : decode cX2_misfitOf 28 = .ok (.iconst 1, 1) := by decide +kernel
theorem dX2_misfitOf_29 : decode cX2_misfitOf 29 = .ok (.if_icmp .lt 12, 3) := by decide +kernel
theorem dX2_misfitOf_32 : decode cX2_misfitOf 32 = .ok (.iload_n 3, 1) := by decide +kernel
theorem dX2_misfitOf_33 : decode cX2_misfitOf 33 = .ok (.ifCond .eq 11, 3) := by decide +kernel
theorem dX2_misfitOf_36 : decode cX2_misfitOf 36 = .ok (.iload_n 2, 1) := by decide +kernel
theorem dX2_misfitOf_37 : decode cX2_misfitOf 37 = .ok (.iconst 1, 1) := by decide +kernel
theorem dX2_misfitOf_38 : decode cX2_misfitOf 38 = .ok (.if_icmp .ge 6, 3) := by decide +kernel
theorem dX2_misfitOf_41 : decode cX2_misfitOf 41 = .ok (.bipush (-4), 2) := by decide +kernel
theorem dX2_misfitOf_43 : decode cX2_misfitOf 43 = .ok (.ireturn, 1) := by decide +kernel
theorem dX2_misfitOf_44 : decode cX2_misfitOf 44 = .ok (.iload_n 0, 1) := by decide +kernel
theorem dX2_misfitOf_45 : decode cX2_misfitOf 45 = .ok (.iconst 2, 1) := by decide +kernel
theorem dX2_misfitOf_46 : decode cX2_misfitOf 46 = .ok (.if_icmp .ne 7, 3) := by decide +kernel
theorem dX2_misfitOf_49 : decode cX2_misfitOf 49 = .ok (.iconst 3, 1) := by decide +kernel
theorem dX2_misfitOf_50 : decode cX2_misfitOf 50 = .ok (.goto 6, 3) := by decide +kernel
theorem dX2_misfitOf_53 : decode cX2_misfitOf 53 = .ok (.sipush 255, 3) := by decide +kernel
theorem dX2_misfitOf_56 : decode cX2_misfitOf 56 = .ok (.istore 4, 2) := by decide +kernel
theorem dX2_misfitOf_58 : decode cX2_misfitOf 58 = .ok (.iload_n 1, 1) := by decide +kernel
theorem dX2_misfitOf_59 : decode cX2_misfitOf 59 = .ok (.sipush 255, 3) := by decide +kernel
theorem dX2_misfitOf_62 : decode cX2_misfitOf 62 = .ok (.if_icmp .gt 13, 3) := by decide +kernel
theorem dX2_misfitOf_65 : decode cX2_misfitOf 65 = .ok (.iload_n 3, 1) := by decide +kernel
theorem dX2_misfitOf_66 : decode cX2_misfitOf 66 = .ok (.ifCond .eq 12, 3) := by decide +kernel
theorem dX2_misfitOf_69 : decode cX2_misfitOf 69 = .ok (.iload_n 2, 1) := by decide +kernel
theorem dX2_misfitOf_70 : decode cX2_misfitOf 70 = .ok (.iload 4, 2) := by decide +kernel
theorem dX2_misfitOf_72 : decode cX2_misfitOf 72 = .ok (.if_icmp .le 6, 3) := by decide +kernel
theorem dX2_misfitOf_75 : decode cX2_misfitOf 75 = .ok (.bipush (-6), 2) := by decide +kernel
theorem dX2_misfitOf_77 : decode cX2_misfitOf 77 = .ok (.ireturn, 1) := by decide +kernel
theorem dX2_misfitOf_78 : decode cX2_misfitOf 78 = .ok (.iload_n 0, 1) := by decide +kernel
theorem dX2_misfitOf_79 : decode cX2_misfitOf 79 = .ok (.iconst 1, 1) := by decide +kernel
theorem dX2_misfitOf_80 : decode cX2_misfitOf 80 = .ok (.if_icmp .ne 14, 3) := by decide +kernel
theorem dX2_misfitOf_83 : decode cX2_misfitOf 83 = .ok (.iload_n 1, 1) := by decide +kernel
theorem dX2_misfitOf_84 : decode cX2_misfitOf 84 = .ok (.iload_n 2, 1) := by decide +kernel
theorem dX2_misfitOf_85 : decode cX2_misfitOf 85 = .ok (.iand, 1) := by decide +kernel
theorem dX2_misfitOf_86 : decode cX2_misfitOf 86 = .ok (.ifCond .eq 8, 3) := by decide +kernel
theorem dX2_misfitOf_89 : decode cX2_misfitOf 89 = .ok (.bipush (-3), 2) := by decide +kernel
theorem dX2_misfitOf_91 : decode cX2_misfitOf 91 = .ok (.goto 4, 3) := by decide +kernel
theorem dX2_misfitOf_94 : decode cX2_misfitOf 94 = .ok (.iconst 0, 1) := by decide +kernel
theorem dX2_misfitOf_95 : decode cX2_misfitOf 95 = .ok (.ireturn, 1) := by decide +kernel
theorem dX2_make_0 : decode cX2_make 0 = .ok (.iconst 0, 1) := by decide +kernel
theorem dX2_make_1 : decode cX2_make 1 = .ok (.istore 4, 2) := by decide +kernel
theorem dX2_make_3 : decode cX2_make 3 = .ok (.iload 4, 2) := by decide +kernel
theorem dX2_make_5 : decode cX2_make 5 = .ok (.bipush 8, 2) := by decide +kernel
theorem dX2_make_7 : decode cX2_make 7 = .ok (.if_icmp .ge 73, 3) := by decide +kernel
theorem dX2_make_10 : decode cX2_make 10 = .ok (.iload_n 2, 1) := by decide +kernel
theorem dX2_make_11 : decode cX2_make 11 = .ok (.iload 4, 2) := by decide +kernel
theorem dX2_make_13 : decode cX2_make 13 = .ok (.ishr, 1) := by decide +kernel
theorem dX2_make_14 : decode cX2_make 14 = .ok (.iconst 1, 1) := by decide +kernel
theorem dX2_make_15 : decode cX2_make 15 = .ok (.iand, 1) := by decide +kernel
theorem dX2_make_16 : decode cX2_make 16 = .ok (.istore 5, 2) := by decide +kernel
theorem dX2_make_18 : decode cX2_make 18 = .ok (.iload_n 3, 1) := by decide +kernel
theorem dX2_make_19 : decode cX2_make 19 = .ok (.iload 4, 2) := by decide +kernel
theorem dX2_make_21 : decode cX2_make 21 = .ok (.ishr, 1) := by decide +kernel
theorem dX2_make_22 : decode cX2_make 22 = .ok (.iconst 1, 1) := by decide +kernel
theorem dX2_make_23 : decode cX2_make 23 = .ok (.iand, 1) := by decide +kernel
theorem dX2_make_24 : decode cX2_make 24 = .ok (.istore 6, 2) := by decide +kernel
theorem dX2_make_26 : decode cX2_make 26 = .ok (.iload 5, 2) := by decide +kernel
theorem dX2_make_28 : decode cX2_make 28 = .ok (.istore 7, 2) := by decide +kernel
theorem dX2_make_30 : decode cX2_make 30 = .ok (.iload_n 1, 1) := by decide +kernel
theorem dX2_make_31 : decode cX2_make 31 = .ok (.iconst 1, 1) := by decide +kernel
theorem dX2_make_32 : decode cX2_make 32 = .ok (.if_icmp .ne 13, 3) := by decide +kernel
theorem dX2_make_35 : decode cX2_make 35 = .ok (.iload 5, 2) := by decide +kernel
theorem dX2_make_37 : decode cX2_make 37 = .ok (.iload 6, 2) := by decide +kernel
theorem dX2_make_39 : decode cX2_make 39 = .ok (.isub, 1) := by decide +kernel
theorem dX2_make_40 : decode cX2_make 40 = .ok (.istore 7, 2) := by decide +kernel
theorem dX2_make_42 : decode cX2_make 42 = .ok (.goto 23, 3) := by decide +kernel
theorem dX2_make_45 : decode cX2_make 45 = .ok (.iload_n 1, 1) := by decide +kernel
theorem dX2_make_46 : decode cX2_make 46 = .ok (.iconst 2, 1) := by decide +kernel
theorem dX2_make_47 : decode cX2_make 47 = .ok (.if_icmp .ne 18, 3) := by decide +kernel
theorem dX2_make_50 : decode cX2_make 50 = .ok (.iload_n 3, 1) := by decide +kernel
theorem dX2_make_51 : decode cX2_make 51 = .ok (.ifCond .eq 14, 3) := by decide +kernel
theorem dX2_make_54 : decode cX2_make 54 = .ok (.iload 5, 2) := by decide +kernel
theorem dX2_make_56 : decode cX2_make 56 = .ok (.iconst 1, 1) := by decide +kernel
theorem dX2_make_57 : decode cX2_make 57 = .ok (.iload 4, 2) := by decide +kernel
theorem dX2_make_59 : decode cX2_make 59 = .ok (.iload_n 3, 1) := by decide +kernel
theorem dX2_make_60 : decode cX2_make 60 = .ok (.irem, 1) := by decide +kernel
theorem dX2_make_61 : decode cX2_make 61 = .ok (.iadd, 1) := by decide +kernel
theorem dX2_make_62 : decode cX2_make 62 = .ok (.imul, 1) := by decide +kernel
theorem dX2_make_63 : decode cX2_make 63 = .ok (.istore 7, 2) := by decide +kernel
theorem dX2_make_65 : decode cX2_make 65 = .ok (.aload_n 0, 1) := by decide +kernel
theorem dX2_make_66 : decode cX2_make 66 = .ok (.getfield 9, 3) := by decide +kernel
theorem dX2_make_69 : decode cX2_make 69 = .ok (.iload 4, 2) := by decide +kernel
theorem dX2_make_71 : decode cX2_make 71 = .ok (.iload 7, 2) := by decide +kernel
theorem dX2_make_73 : decode cX2_make 73 = .ok (.iastore, 1) := by decide +kernel
theorem dX2_make_74 : decode cX2_make 74 = .ok (.iinc 4 1, 3) := by decide +kernel
theorem dX2_make_77 : decode cX2_make 77 = .ok (.goto (-74), 3) := by decide +kernel
theorem dX2_make_80 : decode cX2_make 80 = .ok (.return_, 1) := by decide +kernel
theorem dX2_size_0 : decode cX2_size 0 = .ok (.iconst 0, 1) := by decide +kernel
theorem dX2_size_1 : decode cX2_size 1 = .ok (.istore_n 1, 1) := by decide +kernel
theorem dX2_size_2 : decode cX2_size 2 = .ok (.iconst 0, 1) := by decide +kernel
theorem dX2_size_3 : decode cX2_size 3 = .ok (.istore_n 2, 1) := by decide +kernel
theorem dX2_size_4 : decode cX2_size 4 = .ok (.iload_n 2, 1) := by decide +kernel
theorem dX2_size_5 : decode cX2_size 5 = .ok (.bipush 8, 2) := by decide +kernel
theorem dX2_size_7 : decode cX2_size 7 = .ok (.if_icmp .ge 21, 3) := by decide +kernel
theorem dX2_size_10 : decode cX2_size 10 = .ok (.aload_n 0, 1) := by decide +kernel
theorem dX2_size_11 : decode cX2_size 11 = .ok (.getfield 9, 3) := by decide +kernel
theorem dX2_size_14 : decode cX2_size 14 = .ok (.iload_n 2, 1) := by decide +kernel
theorem dX2_size_15 : decode cX2_size 15 = .ok (.iaload, 1) := by decide +kernel
theorem dX2_size_16 : decode cX2_size 16 = .ok (.ifCond .eq 6, 3) := by decide +kernel
theorem dX2_size_19 : decode cX2_size 19 = .ok (.iinc 1 1, 3) := by decide +kernel
theorem dX2_size_22 : decode cX2_size 22 = .ok (.iinc 2 1, 3) := by decide +kernel
theorem dX2_size_25 : decode cX2_size 25 = .ok (.goto (-21), 3) := by decide +kernel
theorem dX2_size_28 : decode cX2_size 28 = .ok (.iload_n 1, 1) := by decide +kernel
theorem dX2_size_29 : decode cX2_size 29 = .ok (.ireturn, 1) := by decide +kernel
theorem dX4_init_0 : decode cX4_init 0 = .ok (.aload_n 0, 1) := by decide +kernel
theorem dX4_init_1 : decode cX4_init 1 = .ok (.invokespecial 3, 3) := by decide +kernel
theorem dX4_init_4 : decode cX4_init 4 = .ok (.aload_n 0, 1) := by decide +kernel
theorem dX4_init_5 : decode cX4_init 5 = .ok (.bipush 10, 2) := by decide +kernel
theorem dX4_init_7 : decode cX4_init 7 = .ok (.bipush 10, 2) := by decide +kernel
theorem dX4_init_9 : decode cX4_init 9 = .ok (.multianewarray 9 2, 4) := by decide +kernel
theorem dX4_init_13 : decode cX4_init 13 = .ok (.putfield 11, 3) := by decide +kernel
theorem dX4_init_16 : decode cX4_init 16 = .ok (.aload_n 0, 1) := by decide +kernel
theorem dX4_init_17 : decode cX4_init 17 = .ok (.lconst 1, 1) := by decide +kernel
theorem dX4_init_18 : decode cX4_init 18 = .ok (.putfield 16, 3) := by decide +kernel
theorem dX4_init_21 : decode cX4_init 21 = .ok (.iconst 0, 1) := by decide +kernel
theorem dX4_init_22 : decode cX4_init 22 = .ok (.istore_n 1, 1) := by decide +kernel
theorem dX4_init_23 : decode cX4_init 23 = .ok (.iload_n 1, 1) := by decide +kernel
theorem dX4_init_24 : decode cX4_init 24 = .ok (.bipush 10, 2) := by decide +kernel
theorem dX4_init_26 : decode cX4_init 26 = .ok (.if_icmp .ge 18, 3) := by decide +kernel
theorem dX4_init_29 : decode cX4_init 29 = .ok (.aload_n 0, 1) := by decide +kernel
theorem dX4_init_30 : decode cX4_init 30 = .ok (.getfield 11, 3) := by decide +kernel
theorem dX4_init_33 : decode cX4_init 33 = .ok (.iload_n 1, 1) := by decide +kernel
theorem dX4_init_34 : decode cX4_init 34 = .ok (.aaload, 1) := by decide +kernel
theorem dX4_init_35 : decode cX4_init 35 = .ok (.iload_n 1, 1) := by decide +kernel
theorem dX4_init_36 : decode cX4_init 36 = .ok (.lconst 1, 1) := by decide +kernel
theorem dX4_init_37 : decode cX4_init 37 = .ok (.lastore, 1) := by decide +kernel
theorem dX4_init_38 : decode cX4_init 38 = .ok (.iinc 1 1, 3) := by decide +kernel
theorem dX4_init_41 : decode cX4_init 41 = .ok (.goto (-18), 3) := by decide +kernel
theorem dX4_init_44 : decode cX4_init 44 = .ok (.return_, 1) := by decide +kernel
theorem dX4_copyFrom_0 : decode cX4_copyFrom 0 = .ok (.iconst 0, 1) := by decide +kernel
theorem dX4_copyFrom_1 : decode cX4_copyFrom 1 = .ok (.istore_n 2, 1) := by decide +kernel
theorem dX4_copyFrom_2 : decode cX4_copyFrom 2 = .ok (.iload_n 2, 1) := by decide +kernel
theorem dX4_copyFrom_3 : decode cX4_copyFrom 3 = .ok (.bipush 10, 2) := by decide +kernel
theorem dX4_copyFrom_5 : decode cX4_copyFrom 5 = .ok (.if_icmp .ge 28, 3) := by decide +kernel
theorem dX4_copyFrom_8 : decode cX4_copyFrom 8 = .ok (.aload_n 1, 1) := by decide +kernel
theorem dX4_copyFrom_9 : decode cX4_copyFrom 9 = .ok (.getfield 11, 3) := by decide +kernel
theorem dX4_copyFrom_12 : decode cX4_copyFrom 12 = .ok (.iload_n 2, 1) := by decide +kernel
theorem dX4_copyFrom_13 : decode cX4_copyFrom 13 = .ok (.aaload, 1) := by decide +kernel
theorem dX4_copyFrom_14 : decode cX4_copyFrom 14 = .ok (.iconst 0, 1) := by decide +kernel
theorem dX4_copyFrom_15 : decode cX4_copyFrom 15 = .ok (.aload_n 0, 1) := by decide +kernel
theorem dX4_copyFrom_16 : decode cX4_copyFrom 16 = .ok (.getfield 11, 3) := by decide +kernel
theorem dX4_copyFrom_19 : decode cX4_copyFrom 19 = .ok (.iload_n 2, 1) := by decide +kernel
theorem dX4_copyFrom_20 : decode cX4_copyFrom 20 = .ok (.aaload, 1) := by decide +kernel
theorem dX4_copyFrom_21 : decode cX4_copyFrom 21 = .ok (.iconst 0, 1) := by decide +kernel
theorem dX4_copyFrom_22 : decode cX4_copyFrom 22 = .ok (.bipush 10, 2) := by decide +kernel
theorem dX4_copyFrom_24 : decode cX4_copyFrom 24 = .ok (.invokestatic 20, 3) := by decide +kernel
theorem dX4_copyFrom_27 : decode cX4_copyFrom 27 = .ok (.iinc 2 1, 3) := by decide +kernel
theorem dX4_copyFrom_30 : decode cX4_copyFrom 30 = .ok (.goto (-28), 3) := by decide +kernel
theorem dX4_copyFrom_33 : decode cX4_copyFrom 33 = .ok (.aload_n 0, 1) := by decide +kernel
theorem dX4_copyFrom_34 : decode cX4_copyFrom 34 = .ok (.aload_n 1, 1) := by decide +kernel
theorem dX4_copyFrom_35 : decode cX4_copyFrom 35 = .ok (.getfield 16, 3) := by decide +kernel
theorem dX4_copyFrom_38 : decode cX4_copyFrom 38 = .ok (.putfield 16, 3) := by decide +kernel
theorem dX4_copyFrom_41 : decode cX4_copyFrom 41 = .ok (.aload_n 0, 1) := by decide +kernel
theorem dX4_copyFrom_42 : decode cX4_copyFrom 42 = .ok (.aload_n 1, 1) := by decide +kernel
theorem dX4_copyFrom_43 : decode cX4_copyFrom 43 = .ok (.getfield 26, 3) := by decide +kernel
theorem dX4_copyFrom_46 : decode cX4_copyFrom 46 = .ok (.putfield 26, 3) := by decide +kernel
theorem dX4_copyFrom_49 : decode cX4_copyFrom 49 = .ok (.return_, 1) := by decide +kernel
theorem dX4_leave_0 : decode cX4_leave 0 = .ok (.iconst 0, 1) := by decide +kernel
theorem dX4_leave_1 : decode cX4_leave 1 = .ok (.istore_n 3, 1) := by decide +kernel
theorem dX4_leave_2 : decode cX4_leave 2 = .ok (.iload_n 3, 1) := by decide +kernel
theorem dX4_leave_3 : decode cX4_leave 3 = .ok (.bipush 10, 2) := by decide +kernel
theorem dX4_leave_5 : decode cX4_leave 5 = .ok (.if_icmp .ge 13, 3) := by decide +kernel
theorem dX4_leave_8 : decode cX4_leave 8 = .ok (.aload_n 2, 1) := by decide +kernel
theorem dX4_leave_9 : decode cX4_leave 9 = .ok (.iload_n 3, 1) := by decide +kernel
theorem dX4_leave_10 : decode cX4_leave 10 = .ok (.lconst 0, 1) := by decide +kernel
theorem dX4_leave_11 : decode cX4_leave 11 = .ok (.lastore, 1) := by decide +kernel
theorem dX4_leave_12 : decode cX4_leave 12 = .ok (.iinc 3 1, 3) := by decide +kernel
theorem dX4_leave_15 : decode cX4_leave 15 = .ok (.goto (-13), 3) := by decide +kernel
theorem dX4_leave_18 : decode cX4_leave 18 = .ok (.iconst 0, 1) := by decide +kernel
theorem dX4_leave_19 : decode cX4_leave 19 = .ok (.istore_n 3, 1) := by decide +kernel
theorem dX4_leave_20 : decode cX4_leave 20 = .ok (.iload_n 3, 1) := by decide +kernel
theorem dX4_leave_21 : decode cX4_leave 21 = .ok (.bipush 10, 2) := by decide +kernel
theorem dX4_leave_23 : decode cX4_leave 23 = .ok (.if_icmp .ge 58, 3) := by decide +kernel
theorem dX4_leave_26 : decode cX4_leave 26 = .ok (.aload_n 1, 1) := by decide +kernel
theorem dX4_leave_27 : decode cX4_leave 27 = .ok (.iload_n 3, 1) := by decide +kernel
theorem dX4_leave_28 : decode cX4_leave 28 = .ok (.iaload, 1) := by decide +kernel
theorem dX4_leave_29 : decode cX4_leave 29 = .ok (.istore 4, 2) := by decide +kernel
theorem dX4_leave_31 : decode cX4_leave 31 = .ok (.iload 4, 2) := by decide +kernel
theorem dX4_leave_33 : decode cX4_leave 33 = .ok (.ifCond .ne 6, 3) := by decide +kernel
theorem dX4_leave_36 : decode cX4_leave 36 = .ok (.goto 39, 3) := by decide +kernel
theorem dX4_leave_39 : decode cX4_leave 39 = .ok (.iconst 0, 1) := by decide +kernel
theorem dX4_leave_40 : decode cX4_leave 40 = .ok (.istore 5, 2) := by decide +kernel
theorem dX4_leave_42 : decode cX4_leave 42 = .ok (.iload 5, 2) := by decide +kernel
theorem dX4_leave_44 : decode cX4_leave 44 = .ok (.bipush 10, 2) := by decide +kernel
theorem dX4_leave_46 : decode cX4_leave 46 = .ok (.if_icmp .ge 29, 3) := by decide +kernel
theorem dX4_leave_49 : decode cX4_leave 49 = .ok (.aload_n 2, 1) := by decide +kernel
theorem dX4_leave_50 : decode cX4_leave 50 = .ok (.iload 5, 2) := by decide +kernel
theorem dX4_leave_52 : decode cX4_leave 52 = .ok (.dup2, 1) := by decide +kernel
theorem dX4_leave_53 : decode cX4_leave 53 = .ok (.laload, 1) := by decide +kernel
theorem dX4_leave_54 : decode cX4_leave 54 = .ok (.iload 4, 2) := by decide +kernel
theorem dX4_leave_56 : decode cX4_leave 56 = .ok (.i2l, 1) := by decide +kernel
theorem dX4_leave_57 : decode cX4_leave 57 = .ok (.aload_n 0, 1) := by decide +kernel
theorem dX4_leave_58 : decode cX4_leave 58 = .ok (.getfield 11, 3) := by decide +kernel
theorem dX4_leave_61 : decode cX4_leave 61 = .ok (.iload_n 3, 1) := by decide +kernel
theorem dX4_leave_62 : decode cX4_leave 62 = .ok (.aaload, 1) := by decide +kernel
theorem dX4_leave_63 : decode cX4_leave 63 = .ok (.iload 5, 2) := by decide +kernel
theorem dX4_leave_65 : decode cX4_leave 65 = .ok (.laload, 1) := by decide +kernel
theorem dX4_leave_66 : decode cX4_leave 66 = .ok (.lmul, 1) := by decide +kernel
theorem dX4_leave_67 : decode cX4_leave 67 = .ok (.ladd, 1) := by decide +kernel
theorem dX4_leave_68 : decode cX4_leave 68 = .ok (.lastore, 1) := by decide +kernel
theorem dX4_leave_69 : decode cX4_leave 69 = .ok (.iinc 5 1, 3) := by decide +kernel
theorem dX4_leave_72 : decode cX4_leave 72 = .ok (.goto (-30), 3) := by decide +kernel
theorem dX4_leave_75 : decode cX4_leave 75 = .ok (.iinc 3 1, 3) := by decide +kernel
theorem dX4_leave_78 : decode cX4_leave 78 = .ok (.goto (-58), 3) := by decide +kernel
theorem dX4_leave_81 : decode cX4_leave 81 = .ok (.return_, 1) := by decide +kernel
theorem dX4_join_0 : decode cX4_join 0 = .ok (.aload_n 1, 1) := by decide +kernel
theorem dX4_join_1 : decode cX4_join 1 = .ok (.invokestatic 30, 3) := by decide +kernel
theorem dX4_join_4 : decode cX4_join 4 = .ok (.istore_n 2, 1) := by decide +kernel
theorem dX4_join_5 : decode cX4_join 5 = .ok (.iload_n 2, 1) := by decide +kernel
theorem dX4_join_6 : decode cX4_join 6 = .ok (.bipush 10, 2) := by decide +kernel
theorem dX4_join_8 : decode cX4_join 8 = .ok (.invokestatic 34, 3) := by decide +kernel
theorem dX4_join_11 : decode cX4_join 11 = .ok (.ifCond .eq 12, 3) := by decide +kernel
theorem dX4_join_14 : decode cX4_join 14 = .ok (.aload_n 0, 1) := by decide +kernel
theorem dX4_join_15 : decode cX4_join 15 = .ok (.getfield 16, 3) := by decide +kernel
theorem dX4_join_18 : decode cX4_join 18 = .ok (.lconst 0, 1) := by decide +kernel
theorem dX4_join_19 : decode cX4_join 19 = .ok (.lcmp, 1) := by decide +kernel
theorem dX4_join_20 : decode cX4_join 20 = .ok (.ifCond .ne 4, 3) := by decide +kernel
theorem dX4_join_23 : decode cX4_join 23 = .ok (.return_, 1) := by decide +kernel
theorem dX4_join_24 : decode cX4_join 24 = .ok (.aload_n 1, 1) := by decide +kernel
theorem dX4_join_25 : decode cX4_join 25 = .ok (.iload_n 2, 1) := by decide +kernel
theorem dX4_join_26 : decode cX4_join 26 = .ok (.laload, 1) := by decide +kernel
theorem dX4_join_27 : decode cX4_join 27 = .ok (.lstore_n 3, 1) := by decide +kernel
theorem dX4_join_28 : decode cX4_join 28 = .ok (.iconst 0, 1) := by decide +kernel
theorem dX4_join_29 : decode cX4_join 29 = .ok (.istore 5, 2) := by decide +kernel
theorem dX4_join_31 : decode cX4_join 31 = .ok (.iload 5, 2) := by decide +kernel
theorem dX4_join_33 : decode cX4_join 33 = .ok (.bipush 10, 2) := by decide +kernel
theorem dX4_join_35 : decode cX4_join 35 = .ok (.if_icmp .ge 71, 3) := by decide +kernel
theorem dX4_join_38 : decode cX4_join 38 = .ok (.aload_n 0, 1) := by decide +kernel
theorem dX4_join_39 : decode cX4_join 39 = .ok (.getfield 11, 3) := by decide +kernel
theorem dX4_join_42 : decode cX4_join 42 = .ok (.iload 5, 2) := by decide +kernel
theorem dX4_join_44 : decode cX4_join 44 = .ok (.aaload, 1) := by decide +kernel
theorem dX4_join_45 : decode cX4_join 45 = .ok (.iload_n 2, 1) := by decide +kernel
theorem dX4_join_46 : decode cX4_join 46 = .ok (.laload, 1) := by decide +kernel
theorem dX4_join_47 : decode cX4_join 47 = .ok (.lstore 6, 2) := by decide +kernel
theorem dX4_join_49 : decode cX4_join 49 = .ok (.iconst 0, 1) := by decide +kernel
theorem dX4_join_50 : decode cX4_join 50 = .ok (.istore 8, 2) := by decide +kernel
theorem dX4_join_52 : decode cX4_join 52 = .ok (.iload 8, 2) := by decide +kernel
theorem dX4_join_54 : decode cX4_join 54 = .ok (.bipush 10, 2) := by decide +kernel
theorem dX4_join_56 : decode cX4_join 56 = .ok (.if_icmp .ge 44, 3) := by decide +kernel
theorem dX4_join_59 : decode cX4_join 59 = .ok (.aload_n 0, 1) := by decide +kernel
theorem dX4_join_60 : decode cX4_join 60 = .ok (.getfield 11, 3) := by decide +kernel
theorem dX4_join_63 : decode cX4_join 63 = .ok (.iload 5, 2) := by decide +kernel
theorem dX4_join_65 : decode cX4_join 65 = .ok (.aaload, 1) := by decide +kernel
theorem dX4_join_66 : decode cX4_join 66 = .ok (.iload 8, 2) := by decide +kernel
theorem dX4_join_68 : decode cX4_join 68 = .ok (.aload_n 0, 1) := by decide +kernel
theorem dX4_join_69 : decode cX4_join 69 = .ok (.getfield 11, 3) := by decide +kernel
theorem dX4_join_72 : decode cX4_join 72 = .ok (.iload 5, 2) := by decide +kernel
theorem dX4_join_74 : decode cX4_join 74 = .ok (.aaload, 1) := by decide +kernel
theorem dX4_join_75 : decode cX4_join 75 = .ok (.iload 8, 2) := by decide +kernel
theorem dX4_join_77 : decode cX4_join 77 = .ok (.laload, 1) := by decide +kernel
theorem dX4_join_78 : decode cX4_join 78 = .ok (.lload_n 3, 1) := by decide +kernel
theorem dX4_join_79 : decode cX4_join 79 = .ok (.lmul, 1) := by decide +kernel
theorem dX4_join_80 : decode cX4_join 80 = .ok (.lload 6, 2) := by decide +kernel
theorem dX4_join_82 : decode cX4_join 82 = .ok (.aload_n 1, 1) := by decide +kernel
theorem dX4_join_83 : decode cX4_join 83 = .ok (.iload 8, 2) := by decide +kernel
theorem dX4_join_85 : decode cX4_join 85 = .ok (.laload, 1) := by decide +kernel
theorem dX4_join_86 : decode cX4_join 86 = .ok (.lmul, 1) := by decide +kernel
theorem dX4_join_87 : decode cX4_join 87 = .ok (.lsub, 1) := by decide +kernel
theorem dX4_join_88 : decode cX4_join 88 = .ok (.aload_n 0, 1) := by decide +kernel
theorem dX4_join_89 : decode cX4_join 89 = .ok (.getfield 16, 3) := by decide +kernel
theorem dX4_join_92 : decode cX4_join 92 = .ok (.ldiv, 1) := by decide +kernel
theorem dX4_join_93 : decode cX4_join 93 = .ok (.lastore, 1) := by decide +kernel
theorem dX4_join_94 : decode cX4_join 94 = .ok (.iinc 8 1, 3) := by decide +kernel
theorem dX4_join_97 : decode cX4_join 97 = .ok (.goto (-45), 3) := by decide +kernel
theorem dX4_join_100 : decode cX4_join 100 = .ok (.iinc 5 1, 3) := by decide +kernel
theorem dX4_join_103 : decode cX4_join 103 = .ok (.goto (-72), 3) := by decide +kernel
theorem dX4_join_106 : decode cX4_join 106 = .ok (.aload_n 0, 1) := by decide +kernel
theorem dX4_join_107 : decode cX4_join 107 = .ok (.lload_n 3, 1) := by decide +kernel
theorem dX4_join_108 : decode cX4_join 108 = .ok (.putfield 16, 3) := by decide +kernel
theorem dX4_join_111 : decode cX4_join 111 = .ok (.aload_n 0, 1) := by decide +kernel
theorem dX4_join_112 : decode cX4_join 112 = .ok (.dup, 1) := by decide +kernel
theorem dX4_join_113 : decode cX4_join 113 = .ok (.getfield 26, 3) := by decide +kernel
theorem dX4_join_116 : decode cX4_join 116 = .ok (.iconst 1, 1) := by decide +kernel
theorem dX4_join_117 : decode cX4_join 117 = .ok (.iload_n 2, 1) := by decide +kernel
theorem dX4_join_118 : decode cX4_join 118 = .ok (.ishl, 1) := by decide +kernel
theorem dX4_join_119 : decode cX4_join 119 = .ok (.ior, 1) := by decide +kernel
theorem dX4_join_120 : decode cX4_join 120 = .ok (.putfield 26, 3) := by decide +kernel
theorem dX4_join_123 : decode cX4_join 123 = .ok (.return_, 1) := by decide +kernel
theorem dX4_fixedBitsWith_0 : decode cX4_fixedBitsWith 0 = .ok (.iconst 0, 1) := by decide +kernel
theorem dX4_fixedBitsWith_1 : decode cX4_fixedBitsWith 1 = .ok (.istore_n 2, 1) := by decide +kernel
theorem dX4_fixedBitsWith_2 : decode cX4_fixedBitsWith 2 = .ok (.iconst 0, 1) := by decide +kernel
theorem dX4_fixedBitsWith_3 : decode cX4_fixedBitsWith 3 = .ok (.istore_n 3, 1) := by decide +kernel
theorem dX4_fixedBitsWith_4 : decode cX4_fixedBitsWith 4 = .ok (.iload_n 3, 1) := by decide +kernel
theorem dX4_fixedBitsWith_5 : decode cX4_fixedBitsWith 5 = .ok (.bipush 10, 2) := by decide +kernel
theorem dX4_fixedBitsWith_7 : decode cX4_fixedBitsWith 7 = .ok (.if_icmp .ge 46, 3) := by decide +kernel
theorem dX4_fixedBitsWith_10 : decode cX4_fixedBitsWith 10 = .ok (.aload_n 0, 1) := by decide +kernel
theorem dX4_fixedBitsWith_11 : decode cX4_fixedBitsWith 11 = .ok (.getfield 11, 3) := by decide +kernel
theorem dX4_fixedBitsWith_14 : decode cX4_fixedBitsWith 14 = .ok (.iload_n 3, 1) := by decide +kernel
theorem dX4_fixedBitsWith_15 : decode cX4_fixedBitsWith 15 = .ok (.aaload, 1) := by decide +kernel
theorem dX4_fixedBitsWith_16 : decode cX4_fixedBitsWith 16 = .ok (.invokestatic 30, 3) := by decide +kernel
theorem dX4_fixedBitsWith_19 : decode cX4_fixedBitsWith 19 = .ok (.istore 4, 2) := by decide +kernel
theorem dX4_fixedBitsWith_21 : decode cX4_fixedBitsWith 21 = .ok (.iload 4, 2) := by decide +kernel
theorem dX4_fixedBitsWith_23 : decode cX4_fixedBitsWith 23 = .ok (.ifCond .lt 18, 3) := by decide +kernel
theorem dX4_fixedBitsWith_26 : decode cX4_fixedBitsWith 26 = .ok (.aload_n 0, 1) := by decide +kernel
theorem dX4_fixedBitsWith_27 : decode cX4_fixedBitsWith 27 = .ok (.getfield 11, 3) := by decide +kernel
theorem dX4_fixedBitsWith_30 : decode cX4_fixedBitsWith 30 = .ok (.iload_n 3, 1) := by decide +kernel
theorem dX4_fixedBitsWith_31 : decode cX4_fixedBitsWith 31 = .ok (.aaload, 1) := by decide +kernel
theorem dX4_fixedBitsWith_32 : decode cX4_fixedBitsWith 32 = .ok (.aload_n 1, 1) := by decide +kernel
theorem dX4_fixedBitsWith_33 : decode cX4_fixedBitsWith 33 = .ok (.iload 4, 2) := by decide +kernel
theorem dX4_fixedBitsWith_35 : decode cX4_fixedBitsWith 35 = .ok (.invokestatic 38, 3) := by decide +kernel
theorem dX4_fixedBitsWith_38 : decode cX4_fixedBitsWith 38 = .ok (.ifCond .eq 9, 3) := by decide +kernel
theorem dX4_fixedBitsWith_41 : decode cX4_fixedBitsWith 41 = .ok (.iload_n 2, 1) := by decide +kernel
theorem dX4_fixedBitsWith_42 : decode cX4_fixedBitsWith 42 = .ok (.iconst 1, 1) := by decide +kernel
theorem dX4_fixedBitsWith_43 : decode cX4_fixedBitsWith 43 = .ok (.iload_n 3, 1) := by decide +kernel
theorem dX4_fixedBitsWith_44 : decode cX4_fixedBitsWith 44 = .ok (.ishl, 1) := by decide +kernel
theorem dX4_fixedBitsWith_45 : decode cX4_fixedBitsWith 45 = .ok (.ior, 1) := by decide +kernel
theorem dX4_fixedBitsWith_46 : decode cX4_fixedBitsWith 46 = .ok (.istore_n 2, 1) := by decide +kernel
theorem dX4_fixedBitsWith_47 : decode cX4_fixedBitsWith 47 = .ok (.iinc 3 1, 3) := by decide +kernel
theorem dX4_fixedBitsWith_50 : decode cX4_fixedBitsWith 50 = .ok (.goto (-46), 3) := by decide +kernel
theorem dX4_fixedBitsWith_53 : decode cX4_fixedBitsWith 53 = .ok (.iload_n 2, 1) := by decide +kernel
theorem dX4_fixedBitsWith_54 : decode cX4_fixedBitsWith 54 = .ok (.ireturn, 1) := by decide +kernel
theorem dX4_hasPair_0 : decode cX4_hasPair 0 = .ok (.iconst 0, 1) := by decide +kernel
theorem dX4_hasPair_1 : decode cX4_hasPair 1 = .ok (.istore_n 1, 1) := by decide +kernel
theorem dX4_hasPair_2 : decode cX4_hasPair 2 = .ok (.iload_n 1, 1) := by decide +kernel
theorem dX4_hasPair_3 : decode cX4_hasPair 3 = .ok (.bipush 10, 2) := by decide +kernel
theorem dX4_hasPair_5 : decode cX4_hasPair 5 = .ok (.if_icmp .ge 56, 3) := by decide +kernel
theorem dX4_hasPair_8 : decode cX4_hasPair 8 = .ok (.aload_n 0, 1) := by decide +kernel
theorem dX4_hasPair_9 : decode cX4_hasPair 9 = .ok (.getfield 11, 3) := by decide +kernel
theorem dX4_hasPair_12 : decode cX4_hasPair 12 = .ok (.iload_n 1, 1) := by decide +kernel
theorem dX4_hasPair_13 : decode cX4_hasPair 13 = .ok (.aaload, 1) := by decide +kernel
theorem dX4_hasPair_14 : decode cX4_hasPair 14 = .ok (.invokestatic 30, 3) := by decide +kernel
theorem dX4_hasPair_17 : decode cX4_hasPair 17 = .ok (.istore_n 2, 1) := by decide +kernel
theorem dX4_hasPair_18 : decode cX4_hasPair 18 = .ok (.iload_n 1, 1) := by decide +kernel
theorem dX4_hasPair_19 : decode cX4_hasPair 19 = .ok (.iconst 1, 1) := by decide +kernel
theorem dX4_hasPair_20 : decode cX4_hasPair 20 = .ok (.iadd, 1) := by decide +kernel
theorem dX4_hasPair_21 : decode cX4_hasPair 21 = .ok (.istore_n 3, 1) := by decide +kernel
theorem dX4_hasPair_22 : decode cX4_hasPair 22 = .ok (.iload_n 3, 1) := by decide +kernel
theorem dX4_hasPair_23 : decode cX4_hasPair 23 = .ok (.bipush 10, 2) := by decide +kernel
theorem dX4_hasPair_25 : decode cX4_hasPair 25 = .ok (.if_icmp .ge 30, 3) := by decide +kernel
theorem dX4_hasPair_28 : decode cX4_hasPair 28 = .ok (.aload_n 0, 1) := by decide +kernel
theorem dX4_hasPair_29 : decode cX4_hasPair 29 = .ok (.getfield 11, 3) := by decide +kernel
theorem dX4_hasPair_32 : decode cX4_hasPair 32 = .ok (.iload_n 1, 1) := by decide +kernel
theorem dX4_hasPair_33 : decode cX4_hasPair 33 = .ok (.aaload, 1) := by decide +kernel
theorem dX4_hasPair_34 : decode cX4_hasPair 34 = .ok (.aload_n 0, 1) := by decide +kernel
theorem dX4_hasPair_35 : decode cX4_hasPair 35 = .ok (.getfield 11, 3) := by decide +kernel
theorem dX4_hasPair_38 : decode cX4_hasPair 38 = .ok (.iload_n 3, 1) := by decide +kernel
theorem dX4_hasPair_39 : decode cX4_hasPair 39 = .ok (.aaload, 1) := by decide +kernel
theorem dX4_hasPair_40 : decode cX4_hasPair 40 = .ok (.iload_n 2, 1) := by decide +kernel
theorem dX4_hasPair_41 : decode cX4_hasPair 41 = .ok (.invokestatic 38, 3) := by decide +kernel
theorem dX4_hasPair_44 : decode cX4_hasPair 44 = .ok (.ifCond .eq 5, 3) := by decide +kernel
theorem dX4_hasPair_47 : decode cX4_hasPair 47 = .ok (.iconst 1, 1) := by decide +kernel
theorem dX4_hasPair_48 : decode cX4_hasPair 48 = .ok (.ireturn, 1) := by decide +kernel
theorem dX4_hasPair_49 : decode cX4_hasPair 49 = .ok (.iinc 3 1, 3) := by decide +kernel
theorem dX4_hasPair_52 : decode cX4_hasPair 52 = .ok (.goto (-30), 3) := by decide +kernel
theorem dX4_hasPair_55 : decode cX4_hasPair 55 = .ok (.iinc 1 1, 3) := by decide +kernel
theorem dX4_hasPair_58 : decode cX4_hasPair 58 = .ok (.goto (-56), 3) := by decide +kernel
theorem dX4_hasPair_61 : decode cX4_hasPair 61 = .ok (.iconst 0, 1) := by decide +kernel
theorem dX4_hasPair_62 : decode cX4_hasPair 62 = .ok (.ireturn, 1) := by decide +kernel
theorem dX4_reducedPart_0 : decode cX4_reducedPart 0 = .ok (.aload_n 0, 1) := by decide +kernel
theorem dX4_reducedPart_1 : decode cX4_reducedPart 1 = .ok (.iload_n 1, 1) := by decide +kernel
theorem dX4_reducedPart_2 : decode cX4_reducedPart 2 = .ok (.invokevirtual 42, 3) := by decide +kernel
theorem dX4_reducedPart_5 : decode cX4_reducedPart 5 = .ok (.istore 4, 2) := by decide +kernel
theorem dX4_reducedPart_7 : decode cX4_reducedPart 7 = .ok (.iload 4, 2) := by decide +kernel
theorem dX4_reducedPart_9 : decode cX4_reducedPart 9 = .ok (.bipush 10, 2) := by decide +kernel
theorem dX4_reducedPart_11 : decode cX4_reducedPart 11 = .ok (.invokestatic 34, 3) := by decide +kernel
theorem dX4_reducedPart_14 : decode cX4_reducedPart 14 = .ok (.ifCond .eq 12, 3) := by decide +kernel
theorem dX4_reducedPart_17 : decode cX4_reducedPart 17 = .ok (.iload_n 2, 1) := by decide +kernel
theorem dX4_reducedPart_18 : decode cX4_reducedPart 18 = .ok (.bipush 10, 2) := by decide +kernel
theorem dX4_reducedPart_20 : decode cX4_reducedPart 20 = .ok (.invokestatic 34, 3) := by decide +kernel
theorem dX4_reducedPart_23 : decode cX4_reducedPart 23 = .ok (.ifCond .ne 5, 3) := by decide +kernel
theorem dX4_reducedPart_26 : decode cX4_reducedPart 26 = .ok (.lconst 0, 1) := by decide +kernel
theorem dX4_reducedPart_27 : decode cX4_reducedPart 27 = .ok (.lreturn, 1) := by decide +kernel
theorem dX4_reducedPart_28 : decode cX4_reducedPart 28 = .ok (.aload_n 0, 1) := by decide +kernel
theorem dX4_reducedPart_29 : decode cX4_reducedPart 29 = .ok (.getfield 26, 3) := by decide +kernel
theorem dX4_reducedPart_32 : decode cX4_reducedPart 32 = .ok (.iload_n 2, 1) := by decide +kernel
theorem dX4_reducedPart_33 : decode cX4_reducedPart 33 = .ok (.ishr, 1) := by decide +kernel
theorem dX4_reducedPart_34 : decode cX4_reducedPart 34 = .ok (.iconst 1, 1) := by decide +kernel
theorem dX4_reducedPart_35 : decode cX4_reducedPart 35 = .ok (.iand, 1) := by decide +kernel
theorem dX4_reducedPart_36 : decode cX4_reducedPart 36 = .ok (.iconst 1, 1) := by decide +kernel
theorem dX4_reducedPart_37 : decode cX4_reducedPart 37 = .ok (.if_icmp .ne 24, 3) := by decide +kernel
theorem dX4_reducedPart_40 : decode cX4_reducedPart 40 = .ok (.iload_n 2, 1) := by decide +kernel
theorem dX4_reducedPart_41 : decode cX4_reducedPart 41 = .ok (.iload 4, 2) := by decide +kernel
theorem dX4_reducedPart_43 : decode cX4_reducedPart 43 = .ok (.if_icmp .ne 7, 3) := by decide +kernel
theorem dX4_reducedPart_46 : decode cX4_reducedPart 46 = .ok (.iconst 1, 1) := by decide +kernel
theorem dX4_reducedPart_47 : decode cX4_reducedPart 47 = .ok (.goto 4, 3) := by decide +kernel
theorem dX4_reducedPart_50 : decode cX4_reducedPart 50 = .ok (.iconst 0, 1) := by decide +kernel
theorem dX4_reducedPart_51 : decode cX4_reducedPart 51 = .ok (.invokestatic 46, 3) := by decide +kernel
theorem dX4_reducedPart_54 : decode cX4_reducedPart 54 = .ok (.i2l, 1) := by decide +kernel
theorem dX4_reducedPart_55 : decode cX4_reducedPart 55 = .ok (.lconst 1, 1) := by decide +kernel
theorem dX4_reducedPart_56 : decode cX4_reducedPart 56 = .ok (.iload_n 3, 1) := by decide +kernel
theorem dX4_reducedPart_57 : decode cX4_reducedPart 57 = .ok (.invokestatic 50, 3) := by decide +kernel
theorem dX4_reducedPart_60 : decode cX4_reducedPart 60 = .ok (.lreturn, 1) := by decide +kernel
theorem dX4_reducedPart_61 : decode cX4_reducedPart 61 = .ok (.aload_n 0, 1) := by decide +kernel
theorem dX4_reducedPart_62 : decode cX4_reducedPart 62 = .ok (.getfield 11, 3) := by decide +kernel
theorem dX4_reducedPart_65 : decode cX4_reducedPart 65 = .ok (.iload 4, 2) := by decide +kernel
theorem dX4_reducedPart_67 : decode cX4_reducedPart 67 = .ok (.aaload, 1) := by decide +kernel
theorem dX4_reducedPart_68 : decode cX4_reducedPart 68 = .ok (.iload_n 2, 1) := by decide +kernel
theorem dX4_reducedPart_69 : decode cX4_reducedPart 69 = .ok (.laload, 1) := by decide +kernel
theorem dX4_reducedPart_70 : decode cX4_reducedPart 70 = .ok (.lneg, 1) := by decide +kernel
theorem dX4_reducedPart_71 : decode cX4_reducedPart 71 = .ok (.aload_n 0, 1) := by decide +kernel
theorem dX4_reducedPart_72 : decode cX4_reducedPart 72 = .ok (.getfield 16, 3) := by decide +kernel
theorem dX4_reducedPart_75 : decode cX4_reducedPart 75 = .ok (.iload_n 3, 1) := by decide +kernel
theorem dX4_reducedPart_76 : decode cX4_reducedPart 76 = .ok (.invokestatic 50, 3) := by decide +kernel
theorem dX4_reducedPart_79 : decode cX4_reducedPart 79 = .ok (.lreturn, 1) := by decide +kernel
theorem dX4_pivotOf_0 : decode cX4_pivotOf 0 = .ok (.iconst 0, 1) := by decide +kernel
theorem dX4_pivotOf_1 : decode cX4_pivotOf 1 = .ok (.istore_n 2, 1) := by decide +kernel
theorem dX4_pivotOf_2 : decode cX4_pivotOf 2 = .ok (.iconst 0, 1) := by decide +kernel
theorem dX4_pivotOf_3 : decode cX4_pivotOf 3 = .ok (.istore_n 3, 1) := by decide +kernel
theorem dX4_pivotOf_4 : decode cX4_pivotOf 4 = .ok (.iload_n 3, 1) := by decide +kernel
theorem dX4_pivotOf_5 : decode cX4_pivotOf 5 = .ok (.bipush 10, 2) := by decide +kernel
theorem dX4_pivotOf_7 : decode cX4_pivotOf 7 = .ok (.if_icmp .ge 31, 3) := by decide +kernel
theorem dX4_pivotOf_10 : decode cX4_pivotOf 10 = .ok (.aload_n 0, 1) := by decide +kernel
theorem dX4_pivotOf_11 : decode cX4_pivotOf 11 = .ok (.getfield 26, 3) := by decide +kernel
theorem dX4_pivotOf_14 : decode cX4_pivotOf 14 = .ok (.iload_n 3, 1) := by decide +kernel
theorem dX4_pivotOf_15 : decode cX4_pivotOf 15 = .ok (.ishr, 1) := by decide +kernel
theorem dX4_pivotOf_16 : decode cX4_pivotOf 16 = .ok (.iconst 1, 1) := by decide +kernel
theorem dX4_pivotOf_17 : decode cX4_pivotOf 17 = .ok (.iand, 1) := by decide +kernel
theorem dX4_pivotOf_18 : decode cX4_pivotOf 18 = .ok (.iconst 1, 1) := by decide +kernel
theorem dX4_pivotOf_19 : decode cX4_pivotOf 19 = .ok (.if_icmp .ne 13, 3) := by decide +kernel
theorem dX4_pivotOf_22 : decode cX4_pivotOf 22 = .ok (.iload_n 2, 1) := by decide +kernel
theorem dX4_pivotOf_23 : decode cX4_pivotOf 23 = .ok (.iload_n 1, 1) := by decide +kernel
theorem dX4_pivotOf_24 : decode cX4_pivotOf 24 = .ok (.if_icmp .ne 5, 3) := by decide +kernel
theorem dX4_pivotOf_27 : decode cX4_pivotOf 27 = .ok (.iload_n 3, 1) := by decide +kernel
theorem dX4_pivotOf_28 : decode cX4_pivotOf 28 = .ok (.ireturn, 1) := by decide +kernel
theorem dX4_pivotOf_29 : decode cX4_pivotOf 29 = .ok (.iinc 2 1, 3) := by decide +kernel
theorem dX4_pivotOf_32 : decode cX4_pivotOf 32 = .ok (.iinc 3 1, 3) := by decide +kernel
theorem dX4_pivotOf_35 : decode cX4_pivotOf 35 = .ok (.goto (-31), 3) := by decide +kernel
theorem dX4_pivotOf_38 : decode cX4_pivotOf 38 = .ok (.bipush (-9), 2) := by decide +kernel
theorem dX4_pivotOf_40 : decode cX4_pivotOf 40 = .ok (.ireturn, 1) := by decide +kernel
theorem dX4_firstIn_0 : decode cX4_firstIn 0 = .ok (.iconst 0, 1) := by decide +kernel
theorem dX4_firstIn_1 : decode cX4_firstIn 1 = .ok (.istore_n 1, 1) := by decide +kernel
theorem dX4_firstIn_2 : decode cX4_firstIn 2 = .ok (.iload_n 1, 1) := by decide +kernel
theorem dX4_firstIn_3 : decode cX4_firstIn 3 = .ok (.bipush 10, 2) := by decide +kernel
theorem dX4_firstIn_5 : decode cX4_firstIn 5 = .ok (.if_icmp .ge 19, 3) := by decide +kernel
theorem dX4_firstIn_8 : decode cX4_firstIn 8 = .ok (.aload_n 0, 1) := by decide +kernel
theorem dX4_firstIn_9 : decode cX4_firstIn 9 = .ok (.iload_n 1, 1) := by decide +kernel
theorem dX4_firstIn_10 : decode cX4_firstIn 10 = .ok (.laload, 1) := by decide +kernel
theorem dX4_firstIn_11 : decode cX4_firstIn 11 = .ok (.lconst 0, 1) := by decide +kernel
theorem dX4_firstIn_12 : decode cX4_firstIn 12 = .ok (.lcmp, 1) := by decide +kernel
theorem dX4_firstIn_13 : decode cX4_firstIn 13 = .ok (.ifCond .eq 5, 3) := by decide +kernel
theorem dX4_firstIn_16 : decode cX4_firstIn 16 = .ok (.iload_n 1, 1) := by decide +kernel
theorem dX4_firstIn_17 : decode cX4_firstIn 17 = .ok (.ireturn, 1) := by decide +kernel
theorem dX4_firstIn_18 : decode cX4_firstIn 18 = .ok (.iinc 1 1, 3) := by decide +kernel
theorem dX4_firstIn_21 : decode cX4_firstIn 21 = .ok (.goto (-19), 3) := by decide +kernel
theorem dX4_firstIn_24 : decode cX4_firstIn 24 = .ok (.bipush (-9), 2) := by decide +kernel
theorem dX4_firstIn_26 : decode cX4_firstIn 26 = .ok (.ireturn, 1) := by decide +kernel
theorem dX4_isOneLine_0 : decode cX4_isOneLine 0 = .ok (.iload_n 2, 1) := by decide +kernel
theorem dX4_isOneLine_1 : decode cX4_isOneLine 1 = .ok (.ifCond .lt 17, 3) := by decide +kernel
theorem dX4_isOneLine_4 : decode cX4_isOneLine 4 = .ok (.iload_n 2, 1) := by decide +kernel
theorem dX4_isOneLine_5 : decode cX4_isOneLine 5 = .ok (.bipush 10, 2) := by decide +kernel
theorem dX4_isOneLine_7 : decode cX4_isOneLine 7 = .ok (.if_icmp .ge 11, 3) := by decide +kernel
theorem dX4_isOneLine_10 : decode cX4_isOneLine 10 = .ok (.aload_n 1, 1) := by decide +kernel
theorem dX4_isOneLine_11 : decode cX4_isOneLine 11 = .ok (.iload_n 2, 1) := by decide +kernel
theorem dX4_isOneLine_12 : decode cX4_isOneLine 12 = .ok (.laload, 1) := by decide +kernel
theorem dX4_isOneLine_13 : decode cX4_isOneLine 13 = .ok (.lconst 0, 1) := by decide +kernel
theorem dX4_isOneLine_14 : decode cX4_isOneLine 14 = .ok (.lcmp, 1) := by decide +kernel
theorem dX4_isOneLine_15 : decode cX4_isOneLine 15 = .ok (.ifCond .ne 5, 3) := by decide +kernel
theorem dX4_isOneLine_18 : decode cX4_isOneLine 18 = .ok (.iconst 0, 1) := by decide +kernel
theorem dX4_isOneLine_19 : decode cX4_isOneLine 19 = .ok (.ireturn, 1) := by decide +kernel
theorem dX4_isOneLine_20 : decode cX4_isOneLine 20 = .ok (.iconst 0, 1) := by decide +kernel
theorem dX4_isOneLine_21 : decode cX4_isOneLine 21 = .ok (.istore_n 3, 1) := by decide +kernel
theorem dX4_isOneLine_22 : decode cX4_isOneLine 22 = .ok (.iload_n 3, 1) := by decide +kernel
theorem dX4_isOneLine_23 : decode cX4_isOneLine 23 = .ok (.bipush 10, 2) := by decide +kernel
theorem dX4_isOneLine_25 : decode cX4_isOneLine 25 = .ok (.if_icmp .ge 29, 3) := by decide +kernel
theorem dX4_isOneLine_28 : decode cX4_isOneLine 28 = .ok (.aload_n 0, 1) := by decide +kernel
theorem dX4_isOneLine_29 : decode cX4_isOneLine 29 = .ok (.iload_n 3, 1) := by decide +kernel
theorem dX4_isOneLine_30 : decode cX4_isOneLine 30 = .ok (.laload, 1) := by decide +kernel
theorem dX4_isOneLine_31 : decode cX4_isOneLine 31 = .ok (.aload_n 1, 1) := by decide +kernel
theorem dX4_isOneLine_32 : decode cX4_isOneLine 32 = .ok (.iload_n 2, 1) := by decide +kernel
theorem dX4_isOneLine_33 : decode cX4_isOneLine 33 = .ok (.laload, 1) := by decide +kernel
theorem dX4_isOneLine_34 : decode cX4_isOneLine 34 = .ok (.lmul, 1) := by decide +kernel
theorem dX4_isOneLine_35 : decode cX4_isOneLine 35 = .ok (.aload_n 1, 1) := by decide +kernel
theorem dX4_isOneLine_36 : decode cX4_isOneLine 36 = .ok (.iload_n 3, 1) := by decide +kernel
theorem dX4_isOneLine_37 : decode cX4_isOneLine 37 = .ok (.laload, 1) := by decide +kernel
theorem dX4_isOneLine_38 : decode cX4_isOneLine 38 = .ok (.aload_n 0, 1) := by decide +kernel
theorem dX4_isOneLine_39 : decode cX4_isOneLine 39 = .ok (.iload_n 2, 1) := by decide +kernel
theorem dX4_isOneLine_40 : decode cX4_isOneLine 40 = .ok (.laload, 1) := by decide +kernel
theorem dX4_isOneLine_41 : decode cX4_isOneLine 41 = .ok (.lmul, 1) := by decide +kernel
theorem dX4_isOneLine_42 : decode cX4_isOneLine 42 = .ok (.lcmp, 1) := by decide +kernel
theorem dX4_isOneLine_43 : decode cX4_isOneLine 43 = .ok (.ifCond .eq 5, 3) := by decide +kernel
theorem dX4_isOneLine_46 : decode cX4_isOneLine 46 = .ok (.iconst 0, 1) := by decide +kernel
theorem dX4_isOneLine_47 : decode cX4_isOneLine 47 = .ok (.ireturn, 1) := by decide +kernel
theorem dX4_isOneLine_48 : decode cX4_isOneLine 48 = .ok (.iinc 3 1, 3) := by decide +kernel
theorem dX4_isOneLine_51 : decode cX4_isOneLine 51 = .ok (.goto (-29), 3) := by decide +kernel
theorem dX4_isOneLine_54 : decode cX4_isOneLine 54 = .ok (.iconst 1, 1) := by decide +kernel
theorem dX4_isOneLine_55 : decode cX4_isOneLine 55 = .ok (.ireturn, 1) := by decide +kernel
theorem dX5_init_0 : decode cX5_init 0 = .ok (.aload_n 0, 1) := by decide +kernel
theorem dX5_init_1 : decode cX5_init 1 = .ok (.invokespecial 3, 3) := by decide +kernel
theorem dX5_init_4 : decode cX5_init 4 = .ok (.aload_n 0, 1) := by decide +kernel
theorem dX5_init_5 : decode cX5_init 5 = .ok (.bipush 8, 2) := by decide +kernel
theorem dX5_init_7 : decode cX5_init 7 = .ok (.newarray .int, 2) := by decide +kernel
theorem dX5_init_9 : decode cX5_init 9 = .ok (.putfield 9, 3) := by decide +kernel
theorem dX5_init_12 : decode cX5_init 12 = .ok (.aload_n 0, 1) := by decide +kernel
theorem dX5_init_13 : decode cX5_init 13 = .ok (.bipush 10, 2) := by decide +kernel
theorem dX5_init_15 : decode cX5_init 15 = .ok (.newarray .int, 2) := by decide +kernel
theorem dX5_init_17 : decode cX5_init 17 = .ok (.putfield 15, 3) := by decide +kernel
theorem dX5_init_20 : decode cX5_init 20 = .ok (.aload_n 0, 1) := by decide +kernel
theorem dX5_init_21 : decode cX5_init 21 = .ok (.bipush 10, 2) := by decide +kernel
theorem dX5_init_23 : decode cX5_init 23 = .ok (.newarray .int, 2) := by decide +kernel
theorem dX5_init_25 : decode cX5_init 25 = .ok (.putfield 18, 3) := by decide +kernel
theorem dX5_init_28 : decode cX5_init 28 = .ok (.aload_n 0, 1) := by decide +kernel
theorem dX5_init_29 : decode cX5_init 29 = .ok (.bipush 10, 2) := by decide +kernel
theorem dX5_init_31 : decode cX5_init 31 = .ok (.newarray .int, 2) := by decide +kernel
theorem dX5_init_33 : decode cX5_init 33 = .ok (.putfield 21, 3) := by decide +kernel
theorem dX5_init_36 : decode cX5_init 36 = .ok (.aload_n 0, 1) := by decide +kernel
theorem dX5_init_37 : decode cX5_init 37 = .ok (.bipush 8, 2) := by decide +kernel
theorem dX5_init_39 : decode cX5_init 39 = .ok (.putfield 24, 3) := by decide +kernel
theorem dX5_init_42 : decode cX5_init 42 = .ok (.aload_n 0, 1) := by decide +kernel
theorem dX5_init_43 : decode cX5_init 43 = .ok (.iconst 4, 1) := by decide +kernel
theorem dX5_init_44 : decode cX5_init 44 = .ok (.putfield 28, 3) := by decide +kernel
theorem dX5_init_47 : decode cX5_init 47 = .ok (.aload_n 0, 1) := by decide +kernel
theorem dX5_init_48 : decode cX5_init 48 = .ok (.bipush 10, 2) := by decide +kernel
theorem dX5_init_50 : decode cX5_init 50 = .ok (.bipush 10, 2) := by decide +kernel
theorem dX5_init_52 : decode cX5_init 52 = .ok (.multianewarray 31 2, 4) := by decide +kernel
theorem dX5_init_56 : decode cX5_init 56 = .ok (.putfield 33, 3) := by decide +kernel
theorem dX5_init_59 : decode cX5_init 59 = .ok (.aload_n 0, 1) := by decide +kernel
theorem dX5_init_60 : decode cX5_init 60 = .ok (.bipush 10, 2) := by decide +kernel
theorem dX5_init_62 : decode cX5_init 62 = .ok (.newarray .int, 2) := by decide +kernel
theorem dX5_init_64 : decode cX5_init 64 = .ok (.putfield 36, 3) := by decide +kernel
theorem dX5_init_67 : decode cX5_init 67 = .ok (.aload_n 0, 1) := by decide +kernel
theorem dX5_init_68 : decode cX5_init 68 = .ok (.new 39, 3) := by decide +kernel
theorem dX5_init_71 : decode cX5_init 71 = .ok (.dup, 1) := by decide +kernel
theorem dX5_init_72 : decode cX5_init 72 = .ok (.invokespecial 41, 3) := by decide +kernel
theorem dX5_init_75 : decode cX5_init 75 = .ok (.putfield 42, 3) := by decide +kernel
theorem dX5_init_78 : decode cX5_init 78 = .ok (.aload_n 0, 1) := by decide +kernel
theorem dX5_init_79 : decode cX5_init 79 = .ok (.new 39, 3) := by decide +kernel
theorem dX5_init_82 : decode cX5_init 82 = .ok (.dup, 1) := by decide +kernel
theorem dX5_init_83 : decode cX5_init 83 = .ok (.invokespecial 41, 3) := by decide +kernel
theorem dX5_init_86 : decode cX5_init 86 = .ok (.putfield 46, 3) := by decide +kernel
theorem dX5_init_89 : decode cX5_init 89 = .ok (.aload_n 0, 1) := by decide +kernel
theorem dX5_init_90 : decode cX5_init 90 = .ok (.bipush 10, 2) := by decide +kernel
theorem dX5_init_92 : decode cX5_init 92 = .ok (.newarray .int, 2) := by decide +kernel
theorem dX5_init_94 : decode cX5_init 94 = .ok (.putfield 49, 3) := by decide +kernel
theorem dX5_init_97 : decode cX5_init 97 = .ok (.aload_n 0, 1) := by decide +kernel
theorem dX5_init_98 : decode cX5_init 98 = .ok (.bipush 10, 2) := by decide +kernel
theorem dX5_init_100 : decode cX5_init 100 = .ok (.newarray .long, 2) := by decide +kernel
theorem dX5_init_102 : decode cX5_init 102 = .ok (.putfield 52, 3) := by decide +kernel
theorem dX5_init_105 : decode cX5_init 105 = .ok (.iconst 0, 1) := by decide +kernel
theorem dX5_init_106 : decode cX5_init 106 = .ok (.istore_n 1, 1) := by decide +kernel
theorem dX5_init_107 : decode cX5_init 107 = .ok (.iload_n 1, 1) := by decide +kernel
theorem dX5_init_108 : decode cX5_init 108 = .ok (.bipush 8, 2) := by decide +kernel
theorem dX5_init_110 : decode cX5_init 110 = .ok (.if_icmp .ge 16, 3) := by decide +kernel
theorem dX5_init_113 : decode cX5_init 113 = .ok (.aload_n 0, 1) := by decide +kernel
theorem dX5_init_114 : decode cX5_init 114 = .ok (.getfield 9, 3) := by decide +kernel
theorem dX5_init_117 : decode cX5_init 117 = .ok (.iload_n 1, 1) := by decide +kernel
theorem dX5_init_118 : decode cX5_init 118 = .ok (.iload_n 1, 1) := by decide +kernel
theorem dX5_init_119 : decode cX5_init 119 = .ok (.iastore, 1) := by decide +kernel
theorem dX5_init_120 : decode cX5_init 120 = .ok (.iinc 1 1, 3) := by decide +kernel
theorem dX5_init_123 : decode cX5_init 123 = .ok (.goto (-16), 3) := by decide +kernel
theorem dX5_init_126 : decode cX5_init 126 = .ok (.iconst 0, 1) := by decide +kernel
theorem dX5_init_127 : decode cX5_init 127 = .ok (.istore_n 1, 1) := by decide +kernel
theorem dX5_init_128 : decode cX5_init 128 = .ok (.iload_n 1, 1) := by decide +kernel
theorem dX5_init_129 : decode cX5_init 129 = .ok (.bipush 10, 2) := by decide +kernel
theorem dX5_init_131 : decode cX5_init 131 = .ok (.if_icmp .ge 17, 3) := by decide +kernel
theorem dX5_init_134 : decode cX5_init 134 = .ok (.aload_n 0, 1) := by decide +kernel
theorem dX5_init_135 : decode cX5_init 135 = .ok (.getfield 21, 3) := by decide +kernel
theorem dX5_init_138 : decode cX5_init 138 = .ok (.iload_n 1, 1) := by decide +kernel
theorem dX5_init_139 : decode cX5_init 139 = .ok (.bipush 99, 2) := by decide +kernel
theorem dX5_init_141 : decode cX5_init 141 = .ok (.iastore, 1) := by decide +kernel
theorem dX5_init_142 : decode cX5_init 142 = .ok (.iinc 1 1, 3) := by decide +kernel
theorem dX5_init_145 : decode cX5_init 145 = .ok (.goto (-17), 3) := by decide +kernel
theorem dX5_init_148 : decode cX5_init 148 = .ok (.return_, 1) := by decide +kernel
theorem dX5_copyFrom_0 : decode cX5_copyFrom 0 = .ok (.aload_n 1, 1) := by decide +kernel
theorem dX5_copyFrom_1 : decode cX5_copyFrom 1 = .ok (.getfield 9, 3) := by decide +kernel
theorem dX5_copyFrom_4 : decode cX5_copyFrom 4 = .ok (.iconst 0, 1) := by decide +kernel
theorem dX5_copyFrom_5 : decode cX5_copyFrom 5 = .ok (.aload_n 0, 1) := by decide +kernel
theorem dX5_copyFrom_6 : decode cX5_copyFrom 6 = .ok (.getfield 9, 3) := by decide +kernel
theorem dX5_copyFrom_9 : decode cX5_copyFrom 9 = .ok (.iconst 0, 1) := by decide +kernel
theorem dX5_copyFrom_10 : decode cX5_copyFrom 10 = .ok (.bipush 8, 2) := by decide +kernel
theorem dX5_copyFrom_12 : decode cX5_copyFrom 12 = .ok (.invokestatic 56, 3) := by decide +kernel
theorem dX5_copyFrom_15 : decode cX5_copyFrom 15 = .ok (.aload_n 1, 1) := by decide +kernel
theorem dX5_copyFrom_16 : decode cX5_copyFrom 16 = .ok (.getfield 15, 3) := by decide +kernel
theorem dX5_copyFrom_19 : decode cX5_copyFrom 19 = .ok (.iconst 0, 1) := by decide +kernel
theorem dX5_copyFrom_20 : decode cX5_copyFrom 20 = .ok (.aload_n 0, 1) := by decide +kernel
theorem dX5_copyFrom_21 : decode cX5_copyFrom 21 = .ok (.getfield 15, 3) := by decide +kernel
theorem dX5_copyFrom_24 : decode cX5_copyFrom 24 = .ok (.iconst 0, 1) := by decide +kernel
theorem dX5_copyFrom_25 : decode cX5_copyFrom 25 = .ok (.bipush 10, 2) := by decide +kernel
theorem dX5_copyFrom_27 : decode cX5_copyFrom 27 = .ok (.invokestatic 56, 3) := by decide +kernel
theorem dX5_copyFrom_30 : decode cX5_copyFrom 30 = .ok (.aload_n 1, 1) := by decide +kernel
theorem dX5_copyFrom_31 : decode cX5_copyFrom 31 = .ok (.getfield 18, 3) := by decide +kernel
theorem dX5_copyFrom_34 : decode cX5_copyFrom 34 = .ok (.iconst 0, 1) := by decide +kernel
theorem dX5_copyFrom_35 : decode cX5_copyFrom 35 = .ok (.aload_n 0, 1) := by decide +kernel
theorem dX5_copyFrom_36 : decode cX5_copyFrom 36 = .ok (.getfield 18, 3) := by decide +kernel
theorem dX5_copyFrom_39 : decode cX5_copyFrom 39 = .ok (.iconst 0, 1) := by decide +kernel
theorem dX5_copyFrom_40 : decode cX5_copyFrom 40 = .ok (.bipush 10, 2) := by decide +kernel
theorem dX5_copyFrom_42 : decode cX5_copyFrom 42 = .ok (.invokestatic 56, 3) := by decide +kernel
theorem dX5_copyFrom_45 : decode cX5_copyFrom 45 = .ok (.aload_n 1, 1) := by decide +kernel
theorem dX5_copyFrom_46 : decode cX5_copyFrom 46 = .ok (.getfield 21, 3) := by decide +kernel
theorem dX5_copyFrom_49 : decode cX5_copyFrom 49 = .ok (.iconst 0, 1) := by decide +kernel
theorem dX5_copyFrom_50 : decode cX5_copyFrom 50 = .ok (.aload_n 0, 1) := by decide +kernel
theorem dX5_copyFrom_51 : decode cX5_copyFrom 51 = .ok (.getfield 21, 3) := by decide +kernel
theorem dX5_copyFrom_54 : decode cX5_copyFrom 54 = .ok (.iconst 0, 1) := by decide +kernel
theorem dX5_copyFrom_55 : decode cX5_copyFrom 55 = .ok (.bipush 10, 2) := by decide +kernel
theorem dX5_copyFrom_57 : decode cX5_copyFrom 57 = .ok (.invokestatic 56, 3) := by decide +kernel
theorem dX5_copyFrom_60 : decode cX5_copyFrom 60 = .ok (.aload_n 1, 1) := by decide +kernel
theorem dX5_copyFrom_61 : decode cX5_copyFrom 61 = .ok (.getfield 36, 3) := by decide +kernel
theorem dX5_copyFrom_64 : decode cX5_copyFrom 64 = .ok (.iconst 0, 1) := by decide +kernel
theorem dX5_copyFrom_65 : decode cX5_copyFrom 65 = .ok (.aload_n 0, 1) := by decide +kernel
theorem dX5_copyFrom_66 : decode cX5_copyFrom 66 = .ok (.getfield 36, 3) := by decide +kernel
theorem dX5_copyFrom_69 : decode cX5_copyFrom 69 = .ok (.iconst 0, 1) := by decide +kernel
theorem dX5_copyFrom_70 : decode cX5_copyFrom 70 = .ok (.bipush 10, 2) := by decide +kernel
theorem dX5_copyFrom_72 : decode cX5_copyFrom 72 = .ok (.invokestatic 56, 3) := by decide +kernel
theorem dX5_copyFrom_75 : decode cX5_copyFrom 75 = .ok (.iconst 0, 1) := by decide +kernel
theorem dX5_copyFrom_76 : decode cX5_copyFrom 76 = .ok (.istore_n 2, 1) := by decide +kernel
theorem dX5_copyFrom_77 : decode cX5_copyFrom 77 = .ok (.iload_n 2, 1) := by decide +kernel
theorem dX5_copyFrom_78 : decode cX5_copyFrom 78 = .ok (.bipush 10, 2) := by decide +kernel
theorem dX5_copyFrom_80 : decode cX5_copyFrom 80 = .ok (.if_icmp .ge 28, 3) := by decide +kernel
theorem dX5_copyFrom_83 : decode cX5_copyFrom 83 = .ok (.aload_n 1, 1) := by decide +kernel
theorem dX5_copyFrom_84 : decode cX5_copyFrom 84 = .ok (.getfield 33, 3) := by decide +kernel
theorem dX5_copyFrom_87 : decode cX5_copyFrom 87 = .ok (.iload_n 2, 1) := by decide +kernel
theorem dX5_copyFrom_88 : decode cX5_copyFrom 88 = .ok (.aaload, 1) := by decide +kernel
theorem dX5_copyFrom_89 : decode cX5_copyFrom 89 = .ok (.iconst 0, 1) := by decide +kernel
theorem dX5_copyFrom_90 : decode cX5_copyFrom 90 = .ok (.aload_n 0, 1) := by decide +kernel
theorem dX5_copyFrom_91 : decode cX5_copyFrom 91 = .ok (.getfield 33, 3) := by decide +kernel
theorem dX5_copyFrom_94 : decode cX5_copyFrom 94 = .ok (.iload_n 2, 1) := by decide +kernel
theorem dX5_copyFrom_95 : decode cX5_copyFrom 95 = .ok (.aaload, 1) := by decide +kernel
theorem dX5_copyFrom_96 : decode cX5_copyFrom 96 = .ok (.iconst 0, 1) := by decide +kernel
theorem dX5_copyFrom_97 : decode cX5_copyFrom 97 = .ok (.bipush 10, 2) := by decide +kernel
theorem dX5_copyFrom_99 : decode cX5_copyFrom 99 = .ok (.invokestatic 56, 3) := by decide +kernel
theorem dX5_copyFrom_102 : decode cX5_copyFrom 102 = .ok (.iinc 2 1, 3) := by decide +kernel
theorem dX5_copyFrom_105 : decode cX5_copyFrom 105 = .ok (.goto (-28), 3) := by decide +kernel
theorem dX5_copyFrom_108 : decode cX5_copyFrom 108 = .ok (.aload_n 0, 1) := by decide +kernel
theorem dX5_copyFrom_109 : decode cX5_copyFrom 109 = .ok (.aload_n 1, 1) := by decide +kernel
theorem dX5_copyFrom_110 : decode cX5_copyFrom 110 = .ok (.getfield 24, 3) := by decide +kernel
theorem dX5_copyFrom_113 : decode cX5_copyFrom 113 = .ok (.putfield 24, 3) := by decide +kernel
theorem dX5_copyFrom_116 : decode cX5_copyFrom 116 = .ok (.aload_n 0, 1) := by decide +kernel
theorem dX5_copyFrom_117 : decode cX5_copyFrom 117 = .ok (.aload_n 1, 1) := by decide +kernel
theorem dX5_copyFrom_118 : decode cX5_copyFrom 118 = .ok (.getfield 62, 3) := by decide +kernel
theorem dX5_copyFrom_121 : decode cX5_copyFrom 121 = .ok (.putfield 62, 3) := by decide +kernel
theorem dX5_copyFrom_124 : decode cX5_copyFrom 124 = .ok (.aload_n 0, 1) := by decide +kernel
theorem dX5_copyFrom_125 : decode cX5_copyFrom 125 = .ok (.aload_n 1, 1) := by decide +kernel
theorem dX5_copyFrom_126 : decode cX5_copyFrom 126 = .ok (.getfield 28, 3) := by decide +kernel
theorem dX5_copyFrom_129 : decode cX5_copyFrom 129 = .ok (.putfield 28, 3) := by decide +kernel
theorem dX5_copyFrom_132 : decode cX5_copyFrom 132 = .ok (.aload_n 0, 1) := by decide +kernel
theorem dX5_copyFrom_133 : decode cX5_copyFrom 133 = .ok (.aload_n 1, 1) := by decide +kernel
theorem dX5_copyFrom_134 : decode cX5_copyFrom 134 = .ok (.getfield 65, 3) := by decide +kernel
theorem dX5_copyFrom_137 : decode cX5_copyFrom 137 = .ok (.putfield 65, 3) := by decide +kernel
theorem dX5_copyFrom_140 : decode cX5_copyFrom 140 = .ok (.aload_n 0, 1) := by decide +kernel
theorem dX5_copyFrom_141 : decode cX5_copyFrom 141 = .ok (.getfield 42, 3) := by decide +kernel
theorem dX5_copyFrom_144 : decode cX5_copyFrom 144 = .ok (.aload_n 1, 1) := by decide +kernel
theorem dX5_copyFrom_145 : decode cX5_copyFrom 145 = .ok (.getfield 42, 3) := by decide +kernel
theorem dX5_copyFrom_148 : decode cX5_copyFrom 148 = .ok (.invokevirtual 68, 3) := by decide +kernel
theorem dX5_copyFrom_151 : decode cX5_copyFrom 151 = .ok (.return_, 1) := by decide +kernel
theorem dX5_has_0 : decode cX5_has 0 = .ok (.iload_n 1, 1) := by decide +kernel
theorem dX5_has_1 : decode cX5_has 1 = .ok (.aload_n 0, 1) := by decide +kernel
theorem dX5_has_2 : decode cX5_has 2 = .ok (.getfield 24, 3) := by decide +kernel
theorem dX5_has_5 : decode cX5_has 5 = .ok (.invokestatic 72, 3) := by decide +kernel
theorem dX5_has_8 : decode cX5_has 8 = .ok (.ifCond .eq 16, 3) := by decide +kernel
theorem dX5_has_11 : decode cX5_has 11 = .ok (.iload_n 1, 1) := by decide +kernel
theorem dX5_has_12 : decode cX5_has 12 = .ok (.bipush 10, 2) := by decide +kernel
theorem dX5_has_14 : decode cX5_has 14 = .ok (.invokestatic 72, 3) := by decide +kernel
theorem dX5_has_17 : decode cX5_has 17 = .ok (.ifCond .eq 7, 3) := by decide +kernel
theorem dX5_has_20 : decode cX5_has 20 = .ok (.iconst 1, 1) := by decide +kernel
theorem dX5_has_21 : decode cX5_has 21 = .ok (.goto 4, 3) := by decide +kernel
theorem dX5_has_24 : decode cX5_has 24 = .ok (.iconst 0, 1) := by decide +kernel
theorem dX5_has_25 : decode cX5_has 25 = .ok (.ireturn, 1) := by decide +kernel
theorem dX5_variableOf_0 : decode cX5_variableOf 0 = .ok (.iload_n 1, 1) := by decide +kernel
theorem dX5_variableOf_1 : decode cX5_variableOf 1 = .ok (.bipush 8, 2) := by decide +kernel
theorem dX5_variableOf_3 : decode cX5_variableOf 3 = .ok (.invokestatic 72, 3) := by decide +kernel
theorem dX5_variableOf_6 : decode cX5_variableOf 6 = .ok (.ifCond .eq 12, 3) := by decide +kernel
theorem dX5_variableOf_9 : decode cX5_variableOf 9 = .ok (.aload_n 0, 1) := by decide +kernel
theorem dX5_variableOf_10 : decode cX5_variableOf 10 = .ok (.getfield 9, 3) := by decide +kernel
theorem dX5_variableOf_13 : decode cX5_variableOf 13 = .ok (.iload_n 1, 1) := by decide +kernel
theorem dX5_variableOf_14 : decode cX5_variableOf 14 = .ok (.iaload, 1) := by decide +kernel
theorem dX5_variableOf_15 : decode cX5_variableOf 15 = .ok (.goto 5, 3) := by decide +kernel
theorem dX5_variableOf_18 : decode cX5_variableOf 18 = .ok (.bipush (-9), 2) := by decide +kernel
theorem dX5_variableOf_20 : decode cX5_variableOf 20 = .ok (.ireturn, 1) := by decide +kernel
theorem dX5_valueOf_0 : decode cX5_valueOf 0 = .ok (.aload_n 0, 1) := by decide +kernel
theorem dX5_valueOf_1 : decode cX5_valueOf 1 = .ok (.iload_n 1, 1) := by decide +kernel
theorem dX5_valueOf_2 : decode cX5_valueOf 2 = .ok (.invokevirtual 76, 3) := by decide +kernel
theorem dX5_valueOf_5 : decode cX5_valueOf 5 = .ok (.ifCond .eq 12, 3) := by decide +kernel
theorem dX5_valueOf_8 : decode cX5_valueOf 8 = .ok (.aload_n 0, 1) := by decide +kernel
theorem dX5_valueOf_9 : decode cX5_valueOf 9 = .ok (.getfield 15, 3) := by decide +kernel
theorem dX5_valueOf_12 : decode cX5_valueOf 12 = .ok (.iload_n 1, 1) := by decide +kernel
theorem dX5_valueOf_13 : decode cX5_valueOf 13 = .ok (.iaload, 1) := by decide +kernel
theorem dX5_valueOf_14 : decode cX5_valueOf 14 = .ok (.goto 4, 3) := by decide +kernel
theorem dX5_valueOf_17 : decode cX5_valueOf 17 = .ok (.iconst 0, 1) := by decide +kernel
theorem dX5_valueOf_18 : decode cX5_valueOf 18 = .ok (.ireturn, 1) := by decide +kernel
theorem dX5_lowOf_0 : decode cX5_lowOf 0 = .ok (.aload_n 0, 1) := by decide +kernel
theorem dX5_lowOf_1 : decode cX5_lowOf 1 = .ok (.iload_n 1, 1) := by decide +kernel
theorem dX5_lowOf_2 : decode cX5_lowOf 2 = .ok (.invokevirtual 76, 3) := by decide +kernel
theorem dX5_lowOf_5 : decode cX5_lowOf 5 = .ok (.ifCond .eq 12, 3) := by decide +kernel
theorem dX5_lowOf_8 : decode cX5_lowOf 8 = .ok (.aload_n 0, 1) := by decide +kernel
theorem dX5_lowOf_9 : decode cX5_lowOf 9 = .ok (.getfield 18, 3) := by decide +kernel
theorem dX5_lowOf_12 : decode cX5_lowOf 12 = .ok (.iload_n 1, 1) := by decide +kernel
theorem dX5_lowOf_13 : decode cX5_lowOf 13 = .ok (.iaload, 1) := by decide +kernel
theorem dX5_lowOf_14 : decode cX5_lowOf 14 = .ok (.goto 4, 3) := by decide +kernel
theorem dX5_lowOf_17 : decode cX5_lowOf 17 = .ok (.iconst 0, 1) := by decide +kernel
theorem dX5_lowOf_18 : decode cX5_lowOf 18 = .ok (.ireturn, 1) := by decide +kernel
theorem dX5_highOf_0 : decode cX5_highOf 0 = .ok (.aload_n 0, 1) := by decide +kernel
theorem dX5_highOf_1 : decode cX5_highOf 1 = .ok (.iload_n 1, 1) := by decide +kernel
theorem dX5_highOf_2 : decode cX5_highOf 2 = .ok (.invokevirtual 76, 3) := by decide +kernel
theorem dX5_highOf_5 : decode cX5_highOf 5 = .ok (.ifCond .eq 12, 3) := by decide +kernel
theorem dX5_highOf_8 : decode cX5_highOf 8 = .ok (.aload_n 0, 1) := by decide +kernel
theorem dX5_highOf_9 : decode cX5_highOf 9 = .ok (.getfield 21, 3) := by decide +kernel
theorem dX5_highOf_12 : decode cX5_highOf 12 = .ok (.iload_n 1, 1) := by decide +kernel
theorem dX5_highOf_13 : decode cX5_highOf 13 = .ok (.iaload, 1) := by decide +kernel
theorem dX5_highOf_14 : decode cX5_highOf 14 = .ok (.goto 4, 3) := by decide +kernel
theorem dX5_highOf_17 : decode cX5_highOf 17 = .ok (.iconst 0, 1) := by decide +kernel
theorem dX5_highOf_18 : decode cX5_highOf 18 = .ok (.ireturn, 1) := by decide +kernel
theorem dX5_coefficient_0 : decode cX5_coefficient 0 = .ok (.iload_n 1, 1) := by decide +kernel
theorem dX5_coefficient_1 : decode cX5_coefficient 1 = .ok (.bipush 10, 2) := by decide +kernel
theorem dX5_coefficient_3 : decode cX5_coefficient 3 = .ok (.invokestatic 72, 3) := by decide +kernel
theorem dX5_coefficient_6 : decode cX5_coefficient 6 = .ok (.ifCond .eq 23, 3) := by decide +kernel
theorem dX5_coefficient_9 : decode cX5_coefficient 9 = .ok (.iload_n 2, 1) := by decide +kernel
theorem dX5_coefficient_10 : decode cX5_coefficient 10 = .ok (.bipush 10, 2) := by decide +kernel
theorem dX5_coefficient_12 : decode cX5_coefficient 12 = .ok (.invokestatic 72, 3) := by decide +kernel
theorem dX5_coefficient_15 : decode cX5_coefficient 15 = .ok (.ifCond .eq 14, 3) := by decide +kernel
theorem dX5_coefficient_18 : decode cX5_coefficient 18 = .ok (.aload_n 0, 1) := by decide +kernel
theorem dX5_coefficient_19 : decode cX5_coefficient 19 = .ok (.getfield 33, 3) := by decide +kernel
theorem dX5_coefficient_22 : decode cX5_coefficient 22 = .ok (.iload_n 1, 1) := by decide +kernel
theorem dX5_coefficient_23 : decode cX5_coefficient 23 = .ok (.aaload, 1) := by decide +kernel
theorem dX5_coefficient_24 : decode cX5_coefficient 24 = .ok (.iload_n 2, 1) := by decide +kernel
theorem dX5_coefficient_25 : decode cX5_coefficient 25 = .ok (.iaload, 1) := by decide +kernel
theorem dX5_coefficient_26 : decode cX5_coefficient 26 = .ok (.goto 4, 3) := by decide +kernel
theorem dX5_coefficient_29 : decode cX5_coefficient 29 = .ok (.iconst 0, 1) := by decide +kernel
theorem dX5_coefficient_30 : decode cX5_coefficient 30 = .ok (.ireturn, 1) := by decide +kernel
theorem dX5_answerOf_0 : decode cX5_answerOf 0 = .ok (.iload_n 1, 1) := by decide +kernel
theorem dX5_answerOf_1 : decode cX5_answerOf 1 = .ok (.bipush 10, 2) := by decide +kernel
theorem dX5_answerOf_3 : decode cX5_answerOf 3 = .ok (.invokestatic 72, 3) := by decide +kernel
theorem dX5_answerOf_6 : decode cX5_answerOf 6 = .ok (.ifCond .eq 12, 3) := by decide +kernel
theorem dX5_answerOf_9 : decode cX5_answerOf 9 = .ok (.aload_n 0, 1) := by decide +kernel
theorem dX5_answerOf_10 : decode cX5_answerOf 10 = .ok (.getfield 36, 3) := by decide +kernel
theorem dX5_answerOf_13 : decode cX5_answerOf 13 = .ok (.iload_n 1, 1) := by decide +kernel
theorem dX5_answerOf_14 : decode cX5_answerOf 14 = .ok (.iaload, 1) := by decide +kernel
theorem dX5_answerOf_15 : decode cX5_answerOf 15 = .ok (.goto 4, 3) := by decide +kernel
theorem dX5_answerOf_18 : decode cX5_answerOf 18 = .ok (.iconst 0, 1) := by decide +kernel
theorem dX5_answerOf_19 : decode cX5_answerOf 19 = .ok (.ireturn, 1) := by decide +kernel
theorem dX5_isFree_0 : decode cX5_isFree 0 = .ok (.iconst 0, 1) := by decide +kernel
theorem dX5_isFree_1 : decode cX5_isFree 1 = .ok (.istore_n 2, 1) := by decide +kernel
theorem dX5_isFree_2 : decode cX5_isFree 2 = .ok (.iload_n 2, 1) := by decide +kernel
theorem dX5_isFree_3 : decode cX5_isFree 3 = .ok (.aload_n 0, 1) := by decide +kernel
theorem dX5_isFree_4 : decode cX5_isFree 4 = .ok (.getfield 65, 3) := by decide +kernel
theorem dX5_isFree_7 : decode cX5_isFree 7 = .ok (.if_icmp .ge 20, 3) := by decide +kernel
theorem dX5_isFree_10 : decode cX5_isFree 10 = .ok (.aload_n 0, 1) := by decide +kernel
theorem dX5_isFree_11 : decode cX5_isFree 11 = .ok (.iload_n 2, 1) := by decide +kernel
theorem dX5_isFree_12 : decode cX5_isFree 12 = .ok (.iload_n 1, 1) := by decide +kernel
theorem dX5_isFree_13 : decode cX5_isFree 13 = .ok (.invokevirtual 80, 3) := by decide +kernel
theorem dX5_isFree_16 : decode cX5_isFree 16 = .ok (.ifCond .eq 5, 3) := by decide +kernel
theorem dX5_isFree_19 : decode cX5_isFree 19 = .ok (.iconst 0, 1) := by decide +kernel
theorem dX5_isFree_20 : decode cX5_isFree 20 = .ok (.ireturn, 1) := by decide +kernel
theorem dX5_isFree_21 : decode cX5_isFree 21 = .ok (.iinc 2 1, 3) := by decide +kernel
theorem dX5_isFree_24 : decode cX5_isFree 24 = .ok (.goto (-22), 3) := by decide +kernel
theorem dX5_isFree_27 : decode cX5_isFree 27 = .ok (.iconst 1, 1) := by decide +kernel
theorem dX5_isFree_28 : decode cX5_isFree 28 = .ok (.ireturn, 1) := by decide +kernel
theorem dX5_usedBits_0 : decode cX5_usedBits 0 = .ok (.iconst 0, 1) := by decide +kernel
theorem dX5_usedBits_1 : decode cX5_usedBits 1 = .ok (.istore_n 1, 1) := by decide +kernel
theorem dX5_usedBits_2 : decode cX5_usedBits 2 = .ok (.iconst 0, 1) := by decide +kernel
theorem dX5_usedBits_3 : decode cX5_usedBits 3 = .ok (.istore_n 2, 1) := by decide +kernel
theorem dX5_usedBits_4 : decode cX5_usedBits 4 = .ok (.iload_n 2, 1) := by decide +kernel
theorem dX5_usedBits_5 : decode cX5_usedBits 5 = .ok (.bipush 10, 2) := by decide +kernel
theorem dX5_usedBits_7 : decode cX5_usedBits 7 = .ok (.if_icmp .ge 23, 3) := by decide +kernel
theorem dX5_usedBits_10 : decode cX5_usedBits 10 = .ok (.aload_n 0, 1) := by decide +kernel
theorem dX5_usedBits_11 : decode cX5_usedBits 11 = .ok (.iload_n 2, 1) := by decide +kernel
theorem dX5_usedBits_12 : decode cX5_usedBits 12 = .ok (.invokevirtual 84, 3) := by decide +kernel
theorem dX5_usedBits_15 : decode cX5_usedBits 15 = .ok (.ifCond .ne 9, 3) := by decide +kernel
theorem dX5_usedBits_18 : decode cX5_usedBits 18 = .ok (.iload_n 1, 1) := by decide +kernel
theorem dX5_usedBits_19 : decode cX5_usedBits 19 = .ok (.iconst 1, 1) := by decide +kernel
theorem dX5_usedBits_20 : decode cX5_usedBits 20 = .ok (.iload_n 2, 1) := by decide +kernel
theorem dX5_usedBits_21 : decode cX5_usedBits 21 = .ok (.ishl, 1) := by decide +kernel
theorem dX5_usedBits_22 : decode cX5_usedBits 22 = .ok (.ior, 1) := by decide +kernel
theorem dX5_usedBits_23 : decode cX5_usedBits 23 = .ok (.istore_n 1, 1) := by decide +kernel
theorem dX5_usedBits_24 : decode cX5_usedBits 24 = .ok (.iinc 2 1, 3) := by decide +kernel
theorem dX5_usedBits_27 : decode cX5_usedBits 27 = .ok (.goto (-23), 3) := by decide +kernel
theorem dX5_usedBits_30 : decode cX5_usedBits 30 = .ok (.iload_n 1, 1) := by decide +kernel
theorem dX5_usedBits_31 : decode cX5_usedBits 31 = .ok (.ireturn, 1) := by decide +kernel
theorem dX5_valuesOfPeople_0 : decode cX5_valuesOfPeople 0 = .ok (.iconst 0, 1) := by decide +kernel
theorem dX5_valuesOfPeople_1 : decode cX5_valuesOfPeople 1 = .ok (.istore_n 1, 1) := by decide +kernel
theorem dX5_valuesOfPeople_2 : decode cX5_valuesOfPeople 2 = .ok (.iconst 0, 1) := by decide +kernel
theorem dX5_valuesOfPeople_3 : decode cX5_valuesOfPeople 3 = .ok (.istore_n 2, 1) := by decide +kernel
theorem dX5_valuesOfPeople_4 : decode cX5_valuesOfPeople 4 = .ok (.iload_n 2, 1) := by decide +kernel
theorem dX5_valuesOfPeople_5 : decode cX5_valuesOfPeople 5 = .ok (.bipush 8, 2) := by decide +kernel
theorem dX5_valuesOfPeople_7 : decode cX5_valuesOfPeople 7 = .ok (.if_icmp .ge 22, 3) := by decide +kernel
theorem dX5_valuesOfPeople_10 : decode cX5_valuesOfPeople 10 = .ok (.iload_n 1, 1) := by decide +kernel
theorem dX5_valuesOfPeople_11 : decode cX5_valuesOfPeople 11 = .ok (.aload_n 0, 1) := by decide +kernel
theorem dX5_valuesOfPeople_12 : decode cX5_valuesOfPeople 12 = .ok (.aload_n 0, 1) := by decide +kernel
theorem dX5_valuesOfPeople_13 : decode cX5_valuesOfPeople 13 = .ok (.getfield 9, 3) := by decide +kernel
theorem dX5_valuesOfPeople_16 : decode cX5_valuesOfPeople 16 = .ok (.iload_n 2, 1) := by decide +kernel
theorem dX5_valuesOfPeople_17 : decode cX5_valuesOfPeople 17 = .ok (.iaload, 1) := by decide +kernel
theorem dX5_valuesOfPeople_18 : decode cX5_valuesOfPeople 18 = .ok (.invokevirtual 87, 3) := by decide +kernel
theorem dX5_valuesOfPeople_21 : decode cX5_valuesOfPeople 21 = .ok (.iadd, 1) := by decide +kernel
theorem dX5_valuesOfPeople_22 : decode cX5_valuesOfPeople 22 = .ok (.istore_n 1, 1) := by decide +kernel
theorem dX5_valuesOfPeople_23 : decode cX5_valuesOfPeople 23 = .ok (.iinc 2 1, 3) := by decide +kernel
theorem dX5_valuesOfPeople_26 : decode cX5_valuesOfPeople 26 = .ok (.goto (-22), 3) := by decide +kernel
theorem dX5_valuesOfPeople_29 : decode cX5_valuesOfPeople 29 = .ok (.iload_n 1, 1) := by decide +kernel
theorem dX5_valuesOfPeople_30 : decode cX5_valuesOfPeople 30 = .ok (.ireturn, 1) := by decide +kernel
theorem dX5_takeTold_0 : decode cX5_takeTold 0 = .ok (.aload_n 0, 1) := by decide +kernel
theorem dX5_takeTold_1 : decode cX5_takeTold 1 = .ok (.iload_n 1, 1) := by decide +kernel
theorem dX5_takeTold_2 : decode cX5_takeTold 2 = .ok (.invokevirtual 99, 3) := by decide +kernel
theorem dX5_takeTold_5 : decode cX5_takeTold 5 = .ok (.istore_n 3, 1) := by decide +kernel
theorem dX5_takeTold_6 : decode cX5_takeTold 6 = .ok (.aload_n 0, 1) := by decide +kernel
theorem dX5_takeTold_7 : decode cX5_takeTold 7 = .ok (.iload_n 3, 1) := by decide +kernel
theorem dX5_takeTold_8 : decode cX5_takeTold 8 = .ok (.invokevirtual 76, 3) := by decide +kernel
theorem dX5_takeTold_11 : decode cX5_takeTold 11 = .ok (.ifCond .eq 11, 3) := by decide +kernel
theorem dX5_takeTold_14 : decode cX5_takeTold 14 = .ok (.aload_n 0, 1) := by decide +kernel
theorem dX5_takeTold_15 : decode cX5_takeTold 15 = .ok (.iload_n 3, 1) := by decide +kernel
theorem dX5_takeTold_16 : decode cX5_takeTold 16 = .ok (.invokevirtual 84, 3) := by decide +kernel
theorem dX5_takeTold_19 : decode cX5_takeTold 19 = .ok (.ifCond .ne 5, 3) := by decide +kernel
theorem dX5_takeTold_22 : decode cX5_takeTold 22 = .ok (.iconst 0, 1) := by decide +kernel
theorem dX5_takeTold_23 : decode cX5_takeTold 23 = .ok (.ireturn, 1) := by decide +kernel
theorem dX5_takeTold_24 : decode cX5_takeTold 24 = .ok (.aload_n 0, 1) := by decide +kernel
theorem dX5_takeTold_25 : decode cX5_takeTold 25 = .ok (.iload_n 3, 1) := by decide +kernel
theorem dX5_takeTold_26 : decode cX5_takeTold 26 = .ok (.iload_n 2, 1) := by decide +kernel
theorem dX5_takeTold_27 : decode cX5_takeTold 27 = .ok (.invokevirtual 102, 3) := by decide +kernel
theorem dX5_takeTold_30 : decode cX5_takeTold 30 = .ok (.iconst 1, 1) := by decide +kernel
theorem dX5_takeTold_31 : decode cX5_takeTold 31 = .ok (.ireturn, 1) := by decide +kernel
theorem dX5_takeChange_0 : decode cX5_takeChange 0 = .ok (.iload_n 1, 1) := by decide +kernel
theorem dX5_takeChange_1 : decode cX5_takeChange 1 = .ok (.bipush 8, 2) := by decide +kernel
theorem dX5_takeChange_3 : decode cX5_takeChange 3 = .ok (.invokestatic 72, 3) := by decide +kernel
theorem dX5_takeChange_6 : decode cX5_takeChange 6 = .ok (.ifCond .eq 15, 3) := by decide +kernel
theorem dX5_takeChange_9 : decode cX5_takeChange 9 = .ok (.aload_n 0, 1) := by decide +kernel
theorem dX5_takeChange_10 : decode cX5_takeChange 10 = .ok (.getfield 24, 3) := by decide +kernel
theorem dX5_takeChange_13 : decode cX5_takeChange 13 = .ok (.bipush 10, 2) := by decide +kernel
theorem dX5_takeChange_15 : decode cX5_takeChange 15 = .ok (.invokestatic 72, 3) := by decide +kernel
theorem dX5_takeChange_18 : decode cX5_takeChange 18 = .ok (.ifCond .ne 5, 3) := by decide +kernel
theorem dX5_takeChange_21 : decode cX5_takeChange 21 = .ok (.iconst 0, 1) := by decide +kernel
theorem dX5_takeChange_22 : decode cX5_takeChange 22 = .ok (.ireturn, 1) := by decide +kernel
theorem dX5_takeChange_23 : decode cX5_takeChange 23 = .ok (.aload_n 0, 1) := by decide +kernel
theorem dX5_takeChange_24 : decode cX5_takeChange 24 = .ok (.getfield 9, 3) := by decide +kernel
theorem dX5_takeChange_27 : decode cX5_takeChange 27 = .ok (.iload_n 1, 1) := by decide +kernel
theorem dX5_takeChange_28 : decode cX5_takeChange 28 = .ok (.aload_n 0, 1) := by decide +kernel
theorem dX5_takeChange_29 : decode cX5_takeChange 29 = .ok (.getfield 24, 3) := by decide +kernel
theorem dX5_takeChange_32 : decode cX5_takeChange 32 = .ok (.iastore, 1) := by decide +kernel
theorem dX5_takeChange_33 : decode cX5_takeChange 33 = .ok (.aload_n 0, 1) := by decide +kernel
theorem dX5_takeChange_34 : decode cX5_takeChange 34 = .ok (.aload_n 0, 1) := by decide +kernel
theorem dX5_takeChange_35 : decode cX5_takeChange 35 = .ok (.getfield 24, 3) := by decide +kernel
theorem dX5_takeChange_38 : decode cX5_takeChange 38 = .ok (.iload_n 2, 1) := by decide +kernel
theorem dX5_takeChange_39 : decode cX5_takeChange 39 = .ok (.invokevirtual 102, 3) := by decide +kernel
theorem dX5_takeChange_42 : decode cX5_takeChange 42 = .ok (.aload_n 0, 1) := by decide +kernel
theorem dX5_takeChange_43 : decode cX5_takeChange 43 = .ok (.dup, 1) := by decide +kernel
theorem dX5_takeChange_44 : decode cX5_takeChange 44 = .ok (.getfield 24, 3) := by decide +kernel
theorem dX5_takeChange_47 : decode cX5_takeChange 47 = .ok (.iconst 1, 1) := by decide +kernel
theorem dX5_takeChange_48 : decode cX5_takeChange 48 = .ok (.iadd, 1) := by decide +kernel
theorem dX5_takeChange_49 : decode cX5_takeChange 49 = .ok (.putfield 24, 3) := by decide +kernel
theorem dX5_takeChange_52 : decode cX5_takeChange 52 = .ok (.iconst 1, 1) := by decide +kernel
theorem dX5_takeChange_53 : decode cX5_takeChange 53 = .ok (.ireturn, 1) := by decide +kernel
theorem dX5_set_0 : decode cX5_set 0 = .ok (.iload_n 1, 1) := by decide +kernel
theorem dX5_set_1 : decode cX5_set 1 = .ok (.bipush 10, 2) := by decide +kernel
theorem dX5_set_3 : decode cX5_set 3 = .ok (.invokestatic 72, 3) := by decide +kernel
theorem dX5_set_6 : decode cX5_set 6 = .ok (.ifCond .eq 25, 3) := by decide +kernel
theorem dX5_set_9 : decode cX5_set 9 = .ok (.aload_n 0, 1) := by decide +kernel
theorem dX5_set_10 : decode cX5_set 10 = .ok (.getfield 15, 3) := by decide +kernel
theorem dX5_set_13 : decode cX5_set 13 = .ok (.iload_n 1, 1) := by decide +kernel
theorem dX5_set_14 : decode cX5_set 14 = .ok (.iload_n 2, 1) := by decide +kernel
theorem dX5_set_15 : decode cX5_set 15 = .ok (.iastore, 1) := by decide +kernel
theorem dX5_set_16 : decode cX5_set 16 = .ok (.aload_n 0, 1) := by decide +kernel
theorem dX5_set_17 : decode cX5_set 17 = .ok (.getfield 18, 3) := by decide +kernel
theorem dX5_set_20 : decode cX5_set 20 = .ok (.iload_n 1, 1) := by decide +kernel
theorem dX5_set_21 : decode cX5_set 21 = .ok (.iconst 0, 1) := by decide +kernel
theorem dX5_set_22 : decode cX5_set 22 = .ok (.iastore, 1) := by decide +kernel
theorem dX5_set_23 : decode cX5_set 23 = .ok (.aload_n 0, 1) := by decide +kernel
theorem dX5_set_24 : decode cX5_set 24 = .ok (.getfield 21, 3) := by decide +kernel
theorem dX5_set_27 : decode cX5_set 27 = .ok (.iload_n 1, 1) := by decide +kernel
theorem dX5_set_28 : decode cX5_set 28 = .ok (.bipush 99, 2) := by decide +kernel
theorem dX5_set_30 : decode cX5_set 30 = .ok (.iastore, 1) := by decide +kernel
theorem dX5_set_31 : decode cX5_set 31 = .ok (.return_, 1) := by decide +kernel
theorem dX5_takeBounds_0 : decode cX5_takeBounds 0 = .ok (.aload_n 0, 1) := by decide +kernel
theorem dX5_takeBounds_1 : decode cX5_takeBounds 1 = .ok (.iload_n 1, 1) := by decide +kernel
theorem dX5_takeBounds_2 : decode cX5_takeBounds 2 = .ok (.invokevirtual 76, 3) := by decide +kernel
theorem dX5_takeBounds_5 : decode cX5_takeBounds 5 = .ok (.ifCond .eq 23, 3) := by decide +kernel
theorem dX5_takeBounds_8 : decode cX5_takeBounds 8 = .ok (.iload_n 2, 1) := by decide +kernel
theorem dX5_takeBounds_9 : decode cX5_takeBounds 9 = .ok (.aload_n 0, 1) := by decide +kernel
theorem dX5_takeBounds_10 : decode cX5_takeBounds 10 = .ok (.getfield 15, 3) := by decide +kernel
theorem dX5_takeBounds_13 : decode cX5_takeBounds 13 = .ok (.iload_n 1, 1) := by decide +kernel
theorem dX5_takeBounds_14 : decode cX5_takeBounds 14 = .ok (.iaload, 1) := by decide +kernel
theorem dX5_takeBounds_15 : decode cX5_takeBounds 15 = .ok (.if_icmp .gt 13, 3) := by decide +kernel
theorem dX5_takeBounds_18 : decode cX5_takeBounds 18 = .ok (.iload_n 3, 1) := by decide +kernel
theorem dX5_takeBounds_19 : decode cX5_takeBounds 19 = .ok (.aload_n 0, 1) := by decide +kernel
theorem dX5_takeBounds_20 : decode cX5_takeBounds 20 = .ok (.getfield 15, 3) := by decide +kernel
theorem dX5_takeBounds_23 : decode cX5_takeBounds 23 = .ok (.iload_n 1, 1) := by decide +kernel
theorem dX5_takeBounds_24 : decode cX5_takeBounds 24 = .ok (.iaload, 1) := by decide +kernel
theorem dX5_takeBounds_25 : decode cX5_takeBounds 25 = .ok (.if_icmp .ge 5, 3) := by decide +kernel
theorem dX5_takeBounds_28 : decode cX5_takeBounds 28 = .ok (.iconst 0, 1) := by decide +kernel
theorem dX5_takeBounds_29 : decode cX5_takeBounds 29 = .ok (.ireturn, 1) := by decide +kernel
theorem dX5_takeBounds_30 : decode cX5_takeBounds 30 = .ok (.aload_n 0, 1) := by decide +kernel
theorem dX5_takeBounds_31 : decode cX5_takeBounds 31 = .ok (.getfield 18, 3) := by decide +kernel
theorem dX5_takeBounds_34 : decode cX5_takeBounds 34 = .ok (.iload_n 1, 1) := by decide +kernel
theorem dX5_takeBounds_35 : decode cX5_takeBounds 35 = .ok (.iload_n 2, 1) := by decide +kernel
theorem dX5_takeBounds_36 : decode cX5_takeBounds 36 = .ok (.iastore, 1) := by decide +kernel
theorem dX5_takeBounds_37 : decode cX5_takeBounds 37 = .ok (.aload_n 0, 1) := by decide +kernel
theorem dX5_takeBounds_38 : decode cX5_takeBounds 38 = .ok (.getfield 21, 3) := by decide +kernel
theorem dX5_takeBounds_41 : decode cX5_takeBounds 41 = .ok (.iload_n 1, 1) := by decide +kernel
theorem dX5_takeBounds_42 : decode cX5_takeBounds 42 = .ok (.iload_n 3, 1) := by decide +kernel
theorem dX5_takeBounds_43 : decode cX5_takeBounds 43 = .ok (.iastore, 1) := by decide +kernel
theorem dX5_takeBounds_44 : decode cX5_takeBounds 44 = .ok (.iconst 1, 1) := by decide +kernel
theorem dX5_takeBounds_45 : decode cX5_takeBounds 45 = .ok (.ireturn, 1) := by decide +kernel
theorem dX5_takeRule_0 : decode cX5_takeRule 0 = .ok (.iload_n 1, 1) := by decide +kernel
theorem dX5_takeRule_1 : decode cX5_takeRule 1 = .ok (.iconst 4, 1) := by decide +kernel
theorem dX5_takeRule_2 : decode cX5_takeRule 2 = .ok (.invokestatic 72, 3) := by decide +kernel
theorem dX5_takeRule_5 : decode cX5_takeRule 5 = .ok (.ifCond .ne 5, 3) := by decide +kernel
theorem dX5_takeRule_8 : decode cX5_takeRule 8 = .ok (.iconst 0, 1) := by decide +kernel
theorem dX5_takeRule_9 : decode cX5_takeRule 9 = .ok (.ireturn, 1) := by decide +kernel
theorem dX5_takeRule_10 : decode cX5_takeRule 10 = .ok (.aload_n 0, 1) := by decide +kernel
theorem dX5_takeRule_11 : decode cX5_takeRule 11 = .ok (.iload_n 1, 1) := by decide +kernel
theorem dX5_takeRule_12 : decode cX5_takeRule 12 = .ok (.putfield 62, 3) := by decide +kernel
theorem dX5_takeRule_15 : decode cX5_takeRule 15 = .ok (.iconst 1, 1) := by decide +kernel
theorem dX5_takeRule_16 : decode cX5_takeRule 16 = .ok (.ireturn, 1) := by decide +kernel
theorem dX5_takeLimit_0 : decode cX5_takeLimit 0 = .ok (.iload_n 1, 1) := by decide +kernel
theorem dX5_takeLimit_1 : decode cX5_takeLimit 1 = .ok (.bipush 11, 2) := by decide +kernel
theorem dX5_takeLimit_3 : decode cX5_takeLimit 3 = .ok (.invokestatic 72, 3) := by decide +kernel
theorem dX5_takeLimit_6 : decode cX5_takeLimit 6 = .ok (.ifCond .ne 5, 3) := by decide +kernel
theorem dX5_takeLimit_9 : decode cX5_takeLimit 9 = .ok (.iconst 0, 1) := by decide +kernel
theorem dX5_takeLimit_10 : decode cX5_takeLimit 10 = .ok (.ireturn, 1) := by decide +kernel
theorem dX5_takeLimit_11 : decode cX5_takeLimit 11 = .ok (.aload_n 0, 1) := by decide +kernel
theorem dX5_takeLimit_12 : decode cX5_takeLimit 12 = .ok (.iload_n 1, 1) := by decide +kernel
theorem dX5_takeLimit_13 : decode cX5_takeLimit 13 = .ok (.putfield 28, 3) := by decide +kernel
theorem dX5_takeLimit_16 : decode cX5_takeLimit 16 = .ok (.iconst 1, 1) := by decide +kernel
theorem dX5_takeLimit_17 : decode cX5_takeLimit 17 = .ok (.ireturn, 1) := by decide +kernel
theorem dX5_takeQuestion_0 : decode cX5_takeQuestion 0 = .ok (.aload_n 0, 1) := by decide +kernel
theorem dX5_takeQuestion_1 : decode cX5_takeQuestion 1 = .ok (.aload_n 1, 1) := by decide +kernel
theorem dX5_takeQuestion_2 : decode cX5_takeQuestion 2 = .ok (.aload_n 0, 1) := by decide +kernel
theorem dX5_takeQuestion_3 : decode cX5_takeQuestion 3 = .ok (.getfield 62, 3) := by decide +kernel
theorem dX5_takeQuestion_6 : decode cX5_takeQuestion 6 = .ok (.aload_n 0, 1) := by decide +kernel
theorem dX5_takeQuestion_7 : decode cX5_takeQuestion 7 = .ok (.getfield 28, 3) := by decide +kernel
theorem dX5_takeQuestion_10 : decode cX5_takeQuestion 10 = .ok (.invokevirtual 106, 3) := by decide +kernel
theorem dX5_takeQuestion_13 : decode cX5_takeQuestion 13 = .ok (.istore_n 2, 1) := by decide +kernel
theorem dX5_takeQuestion_14 : decode cX5_takeQuestion 14 = .ok (.iload_n 2, 1) := by decide +kernel
theorem dX5_takeQuestion_15 : decode cX5_takeQuestion 15 = .ok (.iconst 1, 1) := by decide +kernel
theorem dX5_takeQuestion_16 : decode cX5_takeQuestion 16 = .ok (.if_icmp .ne 8, 3) := by decide +kernel
theorem dX5_takeQuestion_19 : decode cX5_takeQuestion 19 = .ok (.aload_n 0, 1) := by decide +kernel
theorem dX5_takeQuestion_20 : decode cX5_takeQuestion 20 = .ok (.aload_n 1, 1) := by decide +kernel
theorem dX5_takeQuestion_21 : decode cX5_takeQuestion 21 = .ok (.invokevirtual 110, 3) := by decide +kernel
theorem dX5_takeQuestion_24 : decode cX5_takeQuestion 24 = .ok (.iload_n 2, 1) := by decide +kernel
theorem dX5_takeQuestion_25 : decode cX5_takeQuestion 25 = .ok (.ireturn, 1) := by decide +kernel
theorem dX5_meetingBy_0 : decode cX5_meetingBy 0 = .ok (.aload_n 0, 1) := by decide +kernel
theorem dX5_meetingBy_1 : decode cX5_meetingBy 1 = .ok (.aload_n 1, 1) := by decide +kernel
theorem dX5_meetingBy_2 : decode cX5_meetingBy 2 = .ok (.invokevirtual 114, 3) := by decide +kernel
theorem dX5_meetingBy_5 : decode cX5_meetingBy 5 = .ok (.aload_n 0, 1) := by decide +kernel
theorem dX5_meetingBy_6 : decode cX5_meetingBy 6 = .ok (.getfield 52, 3) := by decide +kernel
theorem dX5_meetingBy_9 : decode cX5_meetingBy 9 = .ok (.invokestatic 117, 3) := by decide +kernel
theorem dX5_meetingBy_12 : decode cX5_meetingBy 12 = .ok (.ifCond .ge 5, 3) := by decide +kernel
theorem dX5_meetingBy_15 : decode cX5_meetingBy 15 = .ok (.iconst 0, 1) := by decide +kernel
theorem dX5_meetingBy_16 : decode cX5_meetingBy 16 = .ok (.ireturn, 1) := by decide +kernel
theorem dX5_meetingBy_17 : decode cX5_meetingBy 17 = .ok (.aload_n 0, 1) := by decide +kernel
theorem dX5_meetingBy_18 : decode cX5_meetingBy 18 = .ok (.getfield 42, 3) := by decide +kernel
theorem dX5_meetingBy_21 : decode cX5_meetingBy 21 = .ok (.aload_n 0, 1) := by decide +kernel
theorem dX5_meetingBy_22 : decode cX5_meetingBy 22 = .ok (.getfield 52, 3) := by decide +kernel
theorem dX5_meetingBy_25 : decode cX5_meetingBy 25 = .ok (.invokevirtual 121, 3) := by decide +kernel
theorem dX5_meetingBy_28 : decode cX5_meetingBy 28 = .ok (.ifCond .eq 5, 3) := by decide +kernel
theorem dX5_meetingBy_31 : decode cX5_meetingBy 31 = .ok (.iconst 2, 1) := by decide +kernel
theorem dX5_meetingBy_32 : decode cX5_meetingBy 32 = .ok (.ireturn, 1) := by decide +kernel
theorem dX5_meetingBy_33 : decode cX5_meetingBy 33 = .ok (.iconst 0, 1) := by decide +kernel
theorem dX5_meetingBy_34 : decode cX5_meetingBy 34 = .ok (.istore 4, 2) := by decide +kernel
theorem dX5_meetingBy_36 : decode cX5_meetingBy 36 = .ok (.iload_n 2, 1) := by decide +kernel
theorem dX5_meetingBy_37 : decode cX5_meetingBy 37 = .ok (.iconst 1, 1) := by decide +kernel
theorem dX5_meetingBy_38 : decode cX5_meetingBy 38 = .ok (.if_icmp .ne 32, 3) := by decide +kernel
theorem dX5_meetingBy_41 : decode cX5_meetingBy 41 = .ok (.aload_n 1, 1) := by decide +kernel
theorem dX5_meetingBy_42 : decode cX5_meetingBy 42 = .ok (.invokevirtual 124, 3) := by decide +kernel
theorem dX5_meetingBy_45 : decode cX5_meetingBy 45 = .ok (.istore 5, 2) := by decide +kernel
theorem dX5_meetingBy_47 : decode cX5_meetingBy 47 = .ok (.iload 5, 2) := by decide +kernel
theorem dX5_meetingBy_49 : decode cX5_meetingBy 49 = .ok (.iconst 2, 1) := by decide +kernel
theorem dX5_meetingBy_50 : decode cX5_meetingBy 50 = .ok (.if_icmp .lt 10, 3) := by decide +kernel
theorem dX5_meetingBy_53 : decode cX5_meetingBy 53 = .ok (.iload 5, 2) := by decide +kernel
theorem dX5_meetingBy_55 : decode cX5_meetingBy 55 = .ok (.bipush 6, 2) := by decide +kernel
theorem dX5_meetingBy_57 : decode cX5_meetingBy 57 = .ok (.if_icmp .le 7, 3) := by decide +kernel
theorem dX5_meetingBy_60 : decode cX5_meetingBy 60 = .ok (.iconst 1, 1) := by decide +kernel
theorem dX5_meetingBy_61 : decode cX5_meetingBy 61 = .ok (.goto 4, 3) := by decide +kernel
theorem dX5_meetingBy_64 : decode cX5_meetingBy 64 = .ok (.iconst 0, 1) := by decide +kernel
theorem dX5_meetingBy_65 : decode cX5_meetingBy 65 = .ok (.istore 4, 2) := by decide +kernel
theorem dX5_meetingBy_67 : decode cX5_meetingBy 67 = .ok (.goto 64, 3) := by decide +kernel
theorem dX5_meetingBy_70 : decode cX5_meetingBy 70 = .ok (.iload_n 2, 1) := by decide +kernel
theorem dX5_meetingBy_71 : decode cX5_meetingBy 71 = .ok (.iconst 2, 1) := by decide +kernel
theorem dX5_meetingBy_72 : decode cX5_meetingBy 72 = .ok (.if_icmp .ne 37, 3) := by decide +kernel
theorem dX5_meetingBy_75 : decode cX5_meetingBy 75 = .ok (.aload_n 0, 1) := by decide +kernel
theorem dX5_meetingBy_76 : decode cX5_meetingBy 76 = .ok (.getfield 46, 3) := by decide +kernel
theorem dX5_meetingBy_79 : decode cX5_meetingBy 79 = .ok (.aload_n 0, 1) := by decide +kernel
theorem dX5_meetingBy_80 : decode cX5_meetingBy 80 = .ok (.getfield 42, 3) := by decide +kernel
theorem dX5_meetingBy_83 : decode cX5_meetingBy 83 = .ok (.invokevirtual 68, 3) := by decide +kernel
theorem dX5_meetingBy_86 : decode cX5_meetingBy 86 = .ok (.aload_n 0, 1) := by decide +kernel
theorem dX5_meetingBy_87 : decode cX5_meetingBy 87 = .ok (.getfield 46, 3) := by decide +kernel
theorem dX5_meetingBy_90 : decode cX5_meetingBy 90 = .ok (.aload_n 0, 1) := by decide +kernel
theorem dX5_meetingBy_91 : decode cX5_meetingBy 91 = .ok (.getfield 52, 3) := by decide +kernel
theorem dX5_meetingBy_94 : decode cX5_meetingBy 94 = .ok (.invokevirtual 129, 3) := by decide +kernel
theorem dX5_meetingBy_97 : decode cX5_meetingBy 97 = .ok (.aload_n 0, 1) := by decide +kernel
theorem dX5_meetingBy_98 : decode cX5_meetingBy 98 = .ok (.getfield 46, 3) := by decide +kernel
theorem dX5_meetingBy_101 : decode cX5_meetingBy 101 = .ok (.invokevirtual 132, 3) := by decide +kernel
theorem dX5_meetingBy_104 : decode cX5_meetingBy 104 = .ok (.istore 4, 2) := by decide +kernel
theorem dX5_meetingBy_106 : decode cX5_meetingBy 106 = .ok (.goto 25, 3) := by decide +kernel
theorem dX5_meetingBy_109 : decode cX5_meetingBy 109 = .ok (.iload_n 2, 1) := by decide +kernel
theorem dX5_meetingBy_110 : decode cX5_meetingBy 110 = .ok (.iconst 3, 1) := by decide +kernel
theorem dX5_meetingBy_111 : decode cX5_meetingBy 111 = .ok (.if_icmp .ne 20, 3) := by decide +kernel
theorem dX5_meetingBy_114 : decode cX5_meetingBy 114 = .ok (.aload_n 0, 1) := by decide +kernel
theorem dX5_meetingBy_115 : decode cX5_meetingBy 115 = .ok (.getfield 65, 3) := by decide +kernel
theorem dX5_meetingBy_118 : decode cX5_meetingBy 118 = .ok (.iconst 1, 1) := by decide +kernel
theorem dX5_meetingBy_119 : decode cX5_meetingBy 119 = .ok (.iadd, 1) := by decide +kernel
theorem dX5_meetingBy_120 : decode cX5_meetingBy 120 = .ok (.iload_n 3, 1) := by decide +kernel
theorem dX5_meetingBy_121 : decode cX5_meetingBy 121 = .ok (.if_icmp .le 7, 3) := by decide +kernel
theorem dX5_meetingBy_124 : decode cX5_meetingBy 124 = .ok (.iconst 1, 1) := by decide +kernel
theorem dX5_meetingBy_125 : decode cX5_meetingBy 125 = .ok (.goto 4, 3) := by decide +kernel
theorem dX5_meetingBy_128 : decode cX5_meetingBy 128 = .ok (.iconst 0, 1) := by decide +kernel
theorem dX5_meetingBy_129 : decode cX5_meetingBy 129 = .ok (.istore 4, 2) := by decide +kernel
theorem dX5_meetingBy_131 : decode cX5_meetingBy 131 = .ok (.iload 4, 2) := by decide +kernel
theorem dX5_meetingBy_133 : decode cX5_meetingBy 133 = .ok (.ifCond .eq 7, 3) := by decide +kernel
theorem dX5_meetingBy_136 : decode cX5_meetingBy 136 = .ok (.iconst 2, 1) := by decide +kernel
theorem dX5_meetingBy_137 : decode cX5_meetingBy 137 = .ok (.goto 4, 3) := by decide +kernel
theorem dX5_meetingBy_140 : decode cX5_meetingBy 140 = .ok (.iconst 1, 1) := by decide +kernel
theorem dX5_meetingBy_141 : decode cX5_meetingBy 141 = .ok (.ireturn, 1) := by decide +kernel
theorem dX5_fixedBitsWith_0 : decode cX5_fixedBitsWith 0 = .ok (.aload_n 0, 1) := by decide +kernel
theorem dX5_fixedBitsWith_1 : decode cX5_fixedBitsWith 1 = .ok (.aload_n 1, 1) := by decide +kernel
theorem dX5_fixedBitsWith_2 : decode cX5_fixedBitsWith 2 = .ok (.invokevirtual 114, 3) := by decide +kernel
theorem dX5_fixedBitsWith_5 : decode cX5_fixedBitsWith 5 = .ok (.aload_n 0, 1) := by decide +kernel
theorem dX5_fixedBitsWith_6 : decode cX5_fixedBitsWith 6 = .ok (.getfield 42, 3) := by decide +kernel
theorem dX5_fixedBitsWith_9 : decode cX5_fixedBitsWith 9 = .ok (.aload_n 0, 1) := by decide +kernel
theorem dX5_fixedBitsWith_10 : decode cX5_fixedBitsWith 10 = .ok (.getfield 52, 3) := by decide +kernel
theorem dX5_fixedBitsWith_13 : decode cX5_fixedBitsWith 13 = .ok (.invokevirtual 121, 3) := by decide +kernel
theorem dX5_fixedBitsWith_16 : decode cX5_fixedBitsWith 16 = .ok (.ireturn, 1) := by decide +kernel
theorem dX5_join_0 : decode cX5_join 0 = .ok (.aload_n 0, 1) := by decide +kernel
theorem dX5_join_1 : decode cX5_join 1 = .ok (.aload_n 1, 1) := by decide +kernel
theorem dX5_join_2 : decode cX5_join 2 = .ok (.invokevirtual 114, 3) := by decide +kernel
theorem dX5_join_5 : decode cX5_join 5 = .ok (.aload_n 0, 1) := by decide +kernel
theorem dX5_join_6 : decode cX5_join 6 = .ok (.getfield 52, 3) := by decide +kernel
theorem dX5_join_9 : decode cX5_join 9 = .ok (.invokestatic 117, 3) := by decide +kernel
theorem dX5_join_12 : decode cX5_join 12 = .ok (.ifCond .lt 15, 3) := by decide +kernel
theorem dX5_join_15 : decode cX5_join 15 = .ok (.aload_n 0, 1) := by decide +kernel
theorem dX5_join_16 : decode cX5_join 16 = .ok (.getfield 65, 3) := by decide +kernel
theorem dX5_join_19 : decode cX5_join 19 = .ok (.bipush 10, 2) := by decide +kernel
theorem dX5_join_21 : decode cX5_join 21 = .ok (.invokestatic 72, 3) := by decide +kernel
theorem dX5_join_24 : decode cX5_join 24 = .ok (.ifCond .ne 4, 3) := by decide +kernel
theorem dX5_join_27 : decode cX5_join 27 = .ok (.return_, 1) := by decide +kernel
theorem dX5_join_28 : decode cX5_join 28 = .ok (.aload_n 0, 1) := by decide +kernel
theorem dX5_join_29 : decode cX5_join 29 = .ok (.getfield 49, 3) := by decide +kernel
theorem dX5_join_32 : decode cX5_join 32 = .ok (.iconst 0, 1) := by decide +kernel
theorem dX5_join_33 : decode cX5_join 33 = .ok (.aload_n 0, 1) := by decide +kernel
theorem dX5_join_34 : decode cX5_join 34 = .ok (.getfield 33, 3) := by decide +kernel
theorem dX5_join_37 : decode cX5_join 37 = .ok (.aload_n 0, 1) := by decide +kernel
theorem dX5_join_38 : decode cX5_join 38 = .ok (.getfield 65, 3) := by decide +kernel
theorem dX5_join_41 : decode cX5_join 41 = .ok (.aaload, 1) := by decide +kernel
theorem dX5_join_42 : decode cX5_join 42 = .ok (.iconst 0, 1) := by decide +kernel
theorem dX5_join_43 : decode cX5_join 43 = .ok (.bipush 10, 2) := by decide +kernel
theorem dX5_join_45 : decode cX5_join 45 = .ok (.invokestatic 56, 3) := by decide +kernel
theorem dX5_join_48 : decode cX5_join 48 = .ok (.aload_n 0, 1) := by decide +kernel
theorem dX5_join_49 : decode cX5_join 49 = .ok (.getfield 36, 3) := by decide +kernel
theorem dX5_join_52 : decode cX5_join 52 = .ok (.aload_n 0, 1) := by decide +kernel
theorem dX5_join_53 : decode cX5_join 53 = .ok (.getfield 65, 3) := by decide +kernel
theorem dX5_join_56 : decode cX5_join 56 = .ok (.aload_n 0, 1) := by decide +kernel
theorem dX5_join_57 : decode cX5_join 57 = .ok (.aload_n 1, 1) := by decide +kernel
theorem dX5_join_58 : decode cX5_join 58 = .ok (.invokevirtual 136, 3) := by decide +kernel
theorem dX5_join_61 : decode cX5_join 61 = .ok (.iastore, 1) := by decide +kernel
theorem dX5_join_62 : decode cX5_join 62 = .ok (.aload_n 0, 1) := by decide +kernel
theorem dX5_join_63 : decode cX5_join 63 = .ok (.dup, 1) := by decide +kernel
theorem dX5_join_64 : decode cX5_join 64 = .ok (.getfield 65, 3) := by decide +kernel
theorem dX5_join_67 : decode cX5_join 67 = .ok (.iconst 1, 1) := by decide +kernel
theorem dX5_join_68 : decode cX5_join 68 = .ok (.iadd, 1) := by decide +kernel
theorem dX5_join_69 : decode cX5_join 69 = .ok (.putfield 65, 3) := by decide +kernel
theorem dX5_join_72 : decode cX5_join 72 = .ok (.aload_n 0, 1) := by decide +kernel
theorem dX5_join_73 : decode cX5_join 73 = .ok (.getfield 42, 3) := by decide +kernel
theorem dX5_join_76 : decode cX5_join 76 = .ok (.aload_n 0, 1) := by decide +kernel
theorem dX5_join_77 : decode cX5_join 77 = .ok (.getfield 52, 3) := by decide +kernel
theorem dX5_join_80 : decode cX5_join 80 = .ok (.invokevirtual 129, 3) := by decide +kernel
theorem dX5_join_83 : decode cX5_join 83 = .ok (.return_, 1) := by decide +kernel
theorem dX5_trueAnswer_0 : decode cX5_trueAnswer 0 = .ok (.iconst 0, 1) := by decide +kernel
theorem dX5_trueAnswer_1 : decode cX5_trueAnswer 1 = .ok (.istore_n 2, 1) := by decide +kernel
theorem dX5_trueAnswer_2 : decode cX5_trueAnswer 2 = .ok (.iconst 0, 1) := by decide +kernel
theorem dX5_trueAnswer_3 : decode cX5_trueAnswer 3 = .ok (.istore_n 3, 1) := by decide +kernel
theorem dX5_trueAnswer_4 : decode cX5_trueAnswer 4 = .ok (.iload_n 3, 1) := by decide +kernel
theorem dX5_trueAnswer_5 : decode cX5_trueAnswer 5 = .ok (.bipush 8, 2) := by decide +kernel
theorem dX5_trueAnswer_7 : decode cX5_trueAnswer 7 = .ok (.if_icmp .ge 44, 3) := by decide +kernel
theorem dX5_trueAnswer_10 : decode cX5_trueAnswer 10 = .ok (.aload_n 0, 1) := by decide +kernel
theorem dX5_trueAnswer_11 : decode cX5_trueAnswer 11 = .ok (.getfield 9, 3) := by decide +kernel
theorem dX5_trueAnswer_14 : decode cX5_trueAnswer 14 = .ok (.iload_n 3, 1) := by decide +kernel
theorem dX5_trueAnswer_15 : decode cX5_trueAnswer 15 = .ok (.iaload, 1) := by decide +kernel
theorem dX5_trueAnswer_16 : decode cX5_trueAnswer 16 = .ok (.istore 4, 2) := by decide +kernel
theorem dX5_trueAnswer_18 : decode cX5_trueAnswer 18 = .ok (.iload 4, 2) := by decide +kernel
theorem dX5_trueAnswer_20 : decode cX5_trueAnswer 20 = .ok (.bipush 10, 2) := by decide +kernel
theorem dX5_trueAnswer_22 : decode cX5_trueAnswer 22 = .ok (.invokestatic 72, 3) := by decide +kernel
theorem dX5_trueAnswer_25 : decode cX5_trueAnswer 25 = .ok (.ifCond .eq 20, 3) := by decide +kernel
theorem dX5_trueAnswer_28 : decode cX5_trueAnswer 28 = .ok (.iload_n 2, 1) := by decide +kernel
theorem dX5_trueAnswer_29 : decode cX5_trueAnswer 29 = .ok (.aload_n 1, 1) := by decide +kernel
theorem dX5_trueAnswer_30 : decode cX5_trueAnswer 30 = .ok (.getfield 140, 3) := by decide +kernel
theorem dX5_trueAnswer_33 : decode cX5_trueAnswer 33 = .ok (.iload_n 3, 1) := by decide +kernel
theorem dX5_trueAnswer_34 : decode cX5_trueAnswer 34 = .ok (.iaload, 1) := by decide +kernel
theorem dX5_trueAnswer_35 : decode cX5_trueAnswer 35 = .ok (.aload_n 0, 1) := by decide +kernel
theorem dX5_trueAnswer_36 : decode cX5_trueAnswer 36 = .ok (.getfield 15, 3) := by decide +kernel
theorem dX5_trueAnswer_39 : decode cX5_trueAnswer 39 = .ok (.iload 4, 2) := by decide +kernel
theorem dX5_trueAnswer_41 : decode cX5_trueAnswer 41 = .ok (.iaload, 1) := by decide +kernel
theorem dX5_trueAnswer_42 : decode cX5_trueAnswer 42 = .ok (.imul, 1) := by decide +kernel
theorem dX5_trueAnswer_43 : decode cX5_trueAnswer 43 = .ok (.iadd, 1) := by decide +kernel
theorem dX5_trueAnswer_44 : decode cX5_trueAnswer 44 = .ok (.istore_n 2, 1) := by decide +kernel
theorem dX5_trueAnswer_45 : decode cX5_trueAnswer 45 = .ok (.iinc 3 1, 3) := by decide +kernel
theorem dX5_trueAnswer_48 : decode cX5_trueAnswer 48 = .ok (.goto (-44), 3) := by decide +kernel
theorem dX5_trueAnswer_51 : decode cX5_trueAnswer 51 = .ok (.iload_n 2, 1) := by decide +kernel
theorem dX5_trueAnswer_52 : decode cX5_trueAnswer 52 = .ok (.ireturn, 1) := by decide +kernel
theorem dX5_findRest_0 : decode cX5_findRest 0 = .ok (.iconst 0, 1) := by decide +kernel
theorem dX5_findRest_1 : decode cX5_findRest 1 = .ok (.istore_n 2, 1) := by decide +kernel
theorem dX5_findRest_2 : decode cX5_findRest 2 = .ok (.iload_n 2, 1) := by decide +kernel
theorem dX5_findRest_3 : decode cX5_findRest 3 = .ok (.bipush 10, 2) := by decide +kernel
theorem dX5_findRest_5 : decode cX5_findRest 5 = .ok (.if_icmp .ge 16, 3) := by decide +kernel
theorem dX5_findRest_8 : decode cX5_findRest 8 = .ok (.aload_n 0, 1) := by decide +kernel
theorem dX5_findRest_9 : decode cX5_findRest 9 = .ok (.getfield 49, 3) := by decide +kernel
theorem dX5_findRest_12 : decode cX5_findRest 12 = .ok (.iload_n 2, 1) := by decide +kernel
theorem dX5_findRest_13 : decode cX5_findRest 13 = .ok (.iconst 0, 1) := by decide +kernel
theorem dX5_findRest_14 : decode cX5_findRest 14 = .ok (.iastore, 1) := by decide +kernel
theorem dX5_findRest_15 : decode cX5_findRest 15 = .ok (.iinc 2 1, 3) := by decide +kernel
theorem dX5_findRest_18 : decode cX5_findRest 18 = .ok (.goto (-16), 3) := by decide +kernel
theorem dX5_findRest_21 : decode cX5_findRest 21 = .ok (.iconst 0, 1) := by decide +kernel
theorem dX5_findRest_22 : decode cX5_findRest 22 = .ok (.istore_n 2, 1) := by decide +kernel
theorem dX5_findRest_23 : decode cX5_findRest 23 = .ok (.iload_n 2, 1) := by decide +kernel
theorem dX5_findRest_24 : decode cX5_findRest 24 = .ok (.bipush 8, 2) := by decide +kernel
theorem dX5_findRest_26 : decode cX5_findRest 26 = .ok (.if_icmp .ge 37, 3) := by decide +kernel
theorem dX5_findRest_29 : decode cX5_findRest 29 = .ok (.aload_n 0, 1) := by decide +kernel
theorem dX5_findRest_30 : decode cX5_findRest 30 = .ok (.getfield 9, 3) := by decide +kernel
theorem dX5_findRest_33 : decode cX5_findRest 33 = .ok (.iload_n 2, 1) := by decide +kernel
theorem dX5_findRest_34 : decode cX5_findRest 34 = .ok (.iaload, 1) := by decide +kernel
theorem dX5_findRest_35 : decode cX5_findRest 35 = .ok (.istore_n 3, 1) := by decide +kernel
theorem dX5_findRest_36 : decode cX5_findRest 36 = .ok (.iload_n 3, 1) := by decide +kernel
theorem dX5_findRest_37 : decode cX5_findRest 37 = .ok (.bipush 10, 2) := by decide +kernel
theorem dX5_findRest_39 : decode cX5_findRest 39 = .ok (.invokestatic 72, 3) := by decide +kernel
theorem dX5_findRest_42 : decode cX5_findRest 42 = .ok (.ifCond .eq 15, 3) := by decide +kernel
theorem dX5_findRest_45 : decode cX5_findRest 45 = .ok (.aload_n 0, 1) := by decide +kernel
theorem dX5_findRest_46 : decode cX5_findRest 46 = .ok (.getfield 49, 3) := by decide +kernel
theorem dX5_findRest_49 : decode cX5_findRest 49 = .ok (.iload_n 3, 1) := by decide +kernel
theorem dX5_findRest_50 : decode cX5_findRest 50 = .ok (.aload_n 1, 1) := by decide +kernel
theorem dX5_findRest_51 : decode cX5_findRest 51 = .ok (.getfield 140, 3) := by decide +kernel
theorem dX5_findRest_54 : decode cX5_findRest 54 = .ok (.iload_n 2, 1) := by decide +kernel
theorem dX5_findRest_55 : decode cX5_findRest 55 = .ok (.iaload, 1) := by decide +kernel
theorem dX5_findRest_56 : decode cX5_findRest 56 = .ok (.iastore, 1) := by decide +kernel
theorem dX5_findRest_57 : decode cX5_findRest 57 = .ok (.iinc 2 1, 3) := by decide +kernel
theorem dX5_findRest_60 : decode cX5_findRest 60 = .ok (.goto (-37), 3) := by decide +kernel
theorem dX5_findRest_63 : decode cX5_findRest 63 = .ok (.aload_n 0, 1) := by decide +kernel
theorem dX5_findRest_64 : decode cX5_findRest 64 = .ok (.getfield 42, 3) := by decide +kernel
theorem dX5_findRest_67 : decode cX5_findRest 67 = .ok (.aload_n 0, 1) := by decide +kernel
theorem dX5_findRest_68 : decode cX5_findRest 68 = .ok (.getfield 49, 3) := by decide +kernel
theorem dX5_findRest_71 : decode cX5_findRest 71 = .ok (.aload_n 0, 1) := by decide +kernel
theorem dX5_findRest_72 : decode cX5_findRest 72 = .ok (.getfield 52, 3) := by decide +kernel
theorem dX5_findRest_75 : decode cX5_findRest 75 = .ok (.invokevirtual 143, 3) := by decide +kernel
theorem dX5_findRest_78 : decode cX5_findRest 78 = .ok (.return_, 1) := by decide +kernel
theorem dX6_init_0 : decode cX6_init 0 = .ok (.aload_n 0, 1) := by decide +kernel
theorem dX6_init_1 : decode cX6_init 1 = .ok (.invokespecial 1, 3) := by decide +kernel
theorem dX6_init_4 : decode cX6_init 4 = .ok (.aload_n 0, 1) := by decide +kernel
theorem dX6_init_5 : decode cX6_init 5 = .ok (.new 7, 3) := by decide +kernel
theorem dX6_init_8 : decode cX6_init 8 = .ok (.dup, 1) := by decide +kernel
theorem dX6_init_9 : decode cX6_init 9 = .ok (.invokespecial 9, 3) := by decide +kernel
theorem dX6_init_12 : decode cX6_init 12 = .ok (.putfield 10, 3) := by decide +kernel
theorem dX6_init_15 : decode cX6_init 15 = .ok (.aload_n 0, 1) := by decide +kernel
theorem dX6_init_16 : decode cX6_init 16 = .ok (.new 7, 3) := by decide +kernel
theorem dX6_init_19 : decode cX6_init 19 = .ok (.dup, 1) := by decide +kernel
theorem dX6_init_20 : decode cX6_init 20 = .ok (.invokespecial 9, 3) := by decide +kernel
theorem dX6_init_23 : decode cX6_init 23 = .ok (.putfield 16, 3) := by decide +kernel
theorem dX6_init_26 : decode cX6_init 26 = .ok (.aload_n 0, 1) := by decide +kernel
theorem dX6_init_27 : decode cX6_init 27 = .ok (.new 7, 3) := by decide +kernel
theorem dX6_init_30 : decode cX6_init 30 = .ok (.dup, 1) := by decide +kernel
theorem dX6_init_31 : decode cX6_init 31 = .ok (.invokespecial 9, 3) := by decide +kernel
theorem dX6_init_34 : decode cX6_init 34 = .ok (.putfield 19, 3) := by decide +kernel
theorem dX6_init_37 : decode cX6_init 37 = .ok (.aload_n 0, 1) := by decide +kernel
theorem dX6_init_38 : decode cX6_init 38 = .ok (.new 22, 3) := by decide +kernel
theorem dX6_init_41 : decode cX6_init 41 = .ok (.dup, 1) := by decide +kernel
theorem dX6_init_42 : decode cX6_init 42 = .ok (.invokespecial 24, 3) := by decide +kernel
theorem dX6_init_45 : decode cX6_init 45 = .ok (.putfield 25, 3) := by decide +kernel
theorem dX6_init_48 : decode cX6_init 48 = .ok (.aload_n 0, 1) := by decide +kernel
theorem dX6_init_49 : decode cX6_init 49 = .ok (.new 29, 3) := by decide +kernel
theorem dX6_init_52 : decode cX6_init 52 = .ok (.dup, 1) := by decide +kernel
theorem dX6_init_53 : decode cX6_init 53 = .ok (.invokespecial 31, 3) := by decide +kernel
theorem dX6_init_56 : decode cX6_init 56 = .ok (.putfield 32, 3) := by decide +kernel
theorem dX6_init_59 : decode cX6_init 59 = .ok (.aload_n 0, 1) := by decide +kernel
theorem dX6_init_60 : decode cX6_init 60 = .ok (.new 36, 3) := by decide +kernel
theorem dX6_init_63 : decode cX6_init 63 = .ok (.dup, 1) := by decide +kernel
theorem dX6_init_64 : decode cX6_init 64 = .ok (.bipush 96, 2) := by decide +kernel
theorem dX6_init_66 : decode cX6_init 66 = .ok (.invokespecial 38, 3) := by decide +kernel
theorem dX6_init_69 : decode cX6_init 69 = .ok (.putfield 41, 3) := by decide +kernel
theorem dX6_init_72 : decode cX6_init 72 = .ok (.aload_n 0, 1) := by decide +kernel
theorem dX6_init_73 : decode cX6_init 73 = .ok (.new 36, 3) := by decide +kernel
theorem dX6_init_76 : decode cX6_init 76 = .ok (.dup, 1) := by decide +kernel
theorem dX6_init_77 : decode cX6_init 77 = .ok (.bipush 32, 2) := by decide +kernel
theorem dX6_init_79 : decode cX6_init 79 = .ok (.invokespecial 38, 3) := by decide +kernel
theorem dX6_init_82 : decode cX6_init 82 = .ok (.putfield 45, 3) := by decide +kernel
theorem dX6_init_85 : decode cX6_init 85 = .ok (.aload_n 0, 1) := by decide +kernel
theorem dX6_init_86 : decode cX6_init 86 = .ok (.bipush 6, 2) := by decide +kernel
theorem dX6_init_88 : decode cX6_init 88 = .ok (.newarray .int, 2) := by decide +kernel
theorem dX6_init_90 : decode cX6_init 90 = .ok (.putfield 48, 3) := by decide +kernel
theorem dX6_init_93 : decode cX6_init 93 = .ok (.return_, 1) := by decide +kernel
theorem dX6_person_0 : decode cX6_person 0 = .ok (.iload_n 1, 1) := by decide +kernel
theorem dX6_person_1 : decode cX6_person 1 = .ok (.bipush 8, 2) := by decide +kernel
theorem dX6_person_3 : decode cX6_person 3 = .ok (.invokestatic 69, 3) := by decide +kernel
theorem dX6_person_6 : decode cX6_person 6 = .ok (.ifCond .ne 9, 3) := by decide +kernel
theorem dX6_person_9 : decode cX6_person 9 = .ok (.aload_n 0, 1) := by decide +kernel
theorem dX6_person_10 : decode cX6_person 10 = .ok (.iconst (-1), 1) := by decide +kernel
theorem dX6_person_11 : decode cX6_person 11 = .ok (.invokevirtual 73, 3) := by decide +kernel
theorem dX6_person_14 : decode cX6_person 14 = .ok (.ireturn, 1) := by decide +kernel
theorem dX6_person_15 : decode cX6_person 15 = .ok (.iload_n 2, 1) := by decide +kernel
theorem dX6_person_16 : decode cX6_person 16 = .ok (.iconst 3, 1) := by decide +kernel
theorem dX6_person_17 : decode cX6_person 17 = .ok (.invokestatic 69, 3) := by decide +kernel
theorem dX6_person_20 : decode cX6_person 20 = .ok (.ifCond .ne 10, 3) := by decide +kernel
theorem dX6_person_23 : decode cX6_person 23 = .ok (.aload_n 0, 1) := by decide +kernel
theorem dX6_person_24 : decode cX6_person 24 = .ok (.bipush (-2), 2) := by decide +kernel
theorem dX6_person_26 : decode cX6_person 26 = .ok (.invokevirtual 73, 3) := by decide +kernel
theorem dX6_person_29 : decode cX6_person 29 = .ok (.ireturn, 1) := by decide +kernel
theorem dX6_person_30 : decode cX6_person 30 = .ok (.aload_n 0, 1) := by decide +kernel
theorem dX6_person_31 : decode cX6_person 31 = .ok (.getfield 10, 3) := by decide +kernel
theorem dX6_person_34 : decode cX6_person 34 = .ok (.iload_n 1, 1) := by decide +kernel
theorem dX6_person_35 : decode cX6_person 35 = .ok (.invokevirtual 77, 3) := by decide +kernel
theorem dX6_person_38 : decode cX6_person 38 = .ok (.istore_n 3, 1) := by decide +kernel
theorem dX6_person_39 : decode cX6_person 39 = .ok (.iload_n 2, 1) := by decide +kernel
theorem dX6_person_40 : decode cX6_person 40 = .ok (.ifCond .ne 14, 3) := by decide +kernel
theorem dX6_person_43 : decode cX6_person 43 = .ok (.aload_n 0, 1) := by decide +kernel
theorem dX6_person_44 : decode cX6_person 44 = .ok (.getfield 10, 3) := by decide +kernel
theorem dX6_person_47 : decode cX6_person 47 = .ok (.iload_n 3, 1) := by decide +kernel
theorem dX6_person_48 : decode cX6_person 48 = .ok (.invokevirtual 80, 3) := by decide +kernel
theorem dX6_person_51 : decode cX6_person 51 = .ok (.goto 23, 3) := by decide +kernel
theorem dX6_person_54 : decode cX6_person 54 = .ok (.iload_n 2, 1) := by decide +kernel
theorem dX6_person_55 : decode cX6_person 55 = .ok (.iconst 1, 1) := by decide +kernel
theorem dX6_person_56 : decode cX6_person 56 = .ok (.if_icmp .ne 7, 3) := by decide +kernel
theorem dX6_person_59 : decode cX6_person 59 = .ok (.iload_n 3, 1) := by decide +kernel
theorem dX6_person_60 : decode cX6_person 60 = .ok (.goto 14, 3) := by decide +kernel
theorem dX6_person_63 : decode cX6_person 63 = .ok (.aload_n 0, 1) := by decide +kernel
theorem dX6_person_64 : decode cX6_person 64 = .ok (.getfield 10, 3) := by decide +kernel
theorem dX6_person_67 : decode cX6_person 67 = .ok (.iload_n 3, 1) := by decide +kernel
theorem dX6_person_68 : decode cX6_person 68 = .ok (.invokevirtual 83, 3) := by decide +kernel
theorem dX6_person_71 : decode cX6_person 71 = .ok (.invokestatic 87, 3) := by decide +kernel
theorem dX6_person_74 : decode cX6_person 74 = .ok (.ireturn, 1) := by decide +kernel
theorem dX6_variable_0 : decode cX6_variable 0 = .ok (.aload_n 0, 1) := by decide +kernel
theorem dX6_variable_1 : decode cX6_variable 1 = .ok (.getfield 10, 3) := by decide +kernel
theorem dX6_variable_4 : decode cX6_variable 4 = .ok (.iload_n 1, 1) := by decide +kernel
theorem dX6_variable_5 : decode cX6_variable 5 = .ok (.invokevirtual 91, 3) := by decide +kernel
theorem dX6_variable_8 : decode cX6_variable 8 = .ok (.ifCond .ne 9, 3) := by decide +kernel
theorem dX6_variable_11 : decode cX6_variable 11 = .ok (.aload_n 0, 1) := by decide +kernel
theorem dX6_variable_12 : decode cX6_variable 12 = .ok (.iconst (-1), 1) := by decide +kernel
theorem dX6_variable_13 : decode cX6_variable 13 = .ok (.invokevirtual 73, 3) := by decide +kernel
theorem dX6_variable_16 : decode cX6_variable 16 = .ok (.ireturn, 1) := by decide +kernel
theorem dX6_variable_17 : decode cX6_variable 17 = .ok (.iload_n 2, 1) := by decide +kernel
theorem dX6_variable_18 : decode cX6_variable 18 = .ok (.bipush 7, 2) := by decide +kernel
theorem dX6_variable_20 : decode cX6_variable 20 = .ok (.invokestatic 69, 3) := by decide +kernel
theorem dX6_variable_23 : decode cX6_variable 23 = .ok (.ifCond .ne 10, 3) := by decide +kernel
theorem dX6_variable_26 : decode cX6_variable 26 = .ok (.aload_n 0, 1) := by decide +kernel
theorem dX6_variable_27 : decode cX6_variable 27 = .ok (.bipush (-2), 2) := by decide +kernel
theorem dX6_variable_29 : decode cX6_variable 29 = .ok (.invokevirtual 73, 3) := by decide +kernel
theorem dX6_variable_32 : decode cX6_variable 32 = .ok (.ireturn, 1) := by decide +kernel
theorem dX6_variable_33 : decode cX6_variable 33 = .ok (.iload_n 2, 1) := by decide +kernel
theorem dX6_variable_34 : decode cX6_variable 34 = .ok (.tableswitch 81 0 6 #[42, 51, 60, 81, 81, 81, 69], 42) := by decide +kernel
theorem dX6_variable_76 : decode cX6_variable 76 = .ok (.aload_n 0, 1) := by decide +kernel
theorem dX6_variable_77 : decode cX6_variable 77 = .ok (.getfield 10, 3) := by decide +kernel
theorem dX6_variable_80 : decode cX6_variable 80 = .ok (.iload_n 1, 1) := by decide +kernel
theorem dX6_variable_81 : decode cX6_variable 81 = .ok (.invokevirtual 80, 3) := by decide +kernel
theorem dX6_variable_84 : decode cX6_variable 84 = .ok (.ireturn, 1) := by decide +kernel
theorem dX6_variable_85 : decode cX6_variable 85 = .ok (.aload_n 0, 1) := by decide +kernel
theorem dX6_variable_86 : decode cX6_variable 86 = .ok (.getfield 10, 3) := by decide +kernel
theorem dX6_variable_89 : decode cX6_variable 89 = .ok (.iload_n 1, 1) := by decide +kernel
theorem dX6_variable_90 : decode cX6_variable 90 = .ok (.invokevirtual 94, 3) := by decide +kernel
theorem dX6_variable_93 : decode cX6_variable 93 = .ok (.ireturn, 1) := by decide +kernel
theorem dX6_variable_94 : decode cX6_variable 94 = .ok (.aload_n 0, 1) := by decide +kernel
theorem dX6_variable_95 : decode cX6_variable 95 = .ok (.getfield 10, 3) := by decide +kernel
theorem dX6_variable_98 : decode cX6_variable 98 = .ok (.iload_n 1, 1) := by decide +kernel
theorem dX6_variable_99 : decode cX6_variable 99 = .ok (.invokevirtual 97, 3) := by decide +kernel
theorem dX6_variable_102 : decode cX6_variable 102 = .ok (.ireturn, 1) := by decide +kernel
theorem dX6_variable_103 : decode cX6_variable 103 = .ok (.aload_n 0, 1) := by decide +kernel
theorem dX6_variable_104 : decode cX6_variable 104 = .ok (.getfield 10, 3) := by decide +kernel
theorem dX6_variable_107 : decode cX6_variable 107 = .ok (.iload_n 1, 1) := by decide +kernel
theorem dX6_variable_108 : decode cX6_variable 108 = .ok (.invokevirtual 83, 3) := by decide +kernel
theorem dX6_variable_111 : decode cX6_variable 111 = .ok (.invokestatic 87, 3) := by decide +kernel
theorem dX6_variable_114 : decode cX6_variable 114 = .ok (.ireturn, 1) := by decide +kernel
theorem dX6_variable_115 : decode cX6_variable 115 = .ok (.aload_n 0, 1) := by decide +kernel
theorem dX6_variable_116 : decode cX6_variable 116 = .ok (.iload_n 1, 1) := by decide +kernel
theorem dX6_variable_117 : decode cX6_variable 117 = .ok (.iload_n 2, 1) := by decide +kernel
theorem dX6_variable_118 : decode cX6_variable 118 = .ok (.invokevirtual 100, 3) := by decide +kernel
theorem dX6_variable_121 : decode cX6_variable 121 = .ok (.ireturn, 1) := by decide +kernel
theorem dX6_narrowed_0 : decode cX6_narrowed 0 = .ok (.aload_n 0, 1) := by decide +kernel
theorem dX6_narrowed_1 : decode cX6_narrowed 1 = .ok (.getfield 32, 3) := by decide +kernel
theorem dX6_narrowed_4 : decode cX6_narrowed 4 = .ok (.aload_n 0, 1) := by decide +kernel
theorem dX6_narrowed_5 : decode cX6_narrowed 5 = .ok (.getfield 10, 3) := by decide +kernel
theorem dX6_narrowed_8 : decode cX6_narrowed 8 = .ok (.invokevirtual 104, 3) := by decide +kernel
theorem dX6_narrowed_11 : decode cX6_narrowed 11 = .ok (.iload_n 2, 1) := by decide +kernel
theorem dX6_narrowed_12 : decode cX6_narrowed 12 = .ok (.iconst 3, 1) := by decide +kernel
theorem dX6_narrowed_13 : decode cX6_narrowed 13 = .ok (.if_icmp .ne 14, 3) := by decide +kernel
theorem dX6_narrowed_16 : decode cX6_narrowed 16 = .ok (.aload_n 0, 1) := by decide +kernel
theorem dX6_narrowed_17 : decode cX6_narrowed 17 = .ok (.getfield 32, 3) := by decide +kernel
theorem dX6_narrowed_20 : decode cX6_narrowed 20 = .ok (.iload_n 1, 1) := by decide +kernel
theorem dX6_narrowed_21 : decode cX6_narrowed 21 = .ok (.invokevirtual 107, 3) := by decide +kernel
theorem dX6_narrowed_24 : decode cX6_narrowed 24 = .ok (.goto 27, 3) := by decide +kernel
theorem dX6_narrowed_27 : decode cX6_narrowed 27 = .ok (.iload_n 2, 1) := by decide +kernel
theorem dX6_narrowed_28 : decode cX6_narrowed 28 = .ok (.iconst 4, 1) := by decide +kernel
theorem dX6_narrowed_29 : decode cX6_narrowed 29 = .ok (.if_icmp .ne 14, 3) := by decide +kernel
theorem dX6_narrowed_32 : decode cX6_narrowed 32 = .ok (.aload_n 0, 1) := by decide +kernel
theorem dX6_narrowed_33 : decode cX6_narrowed 33 = .ok (.getfield 32, 3) := by decide +kernel
theorem dX6_narrowed_36 : decode cX6_narrowed 36 = .ok (.iload_n 1, 1) := by decide +kernel
theorem dX6_narrowed_37 : decode cX6_narrowed 37 = .ok (.invokevirtual 110, 3) := by decide +kernel
theorem dX6_narrowed_40 : decode cX6_narrowed 40 = .ok (.goto 11, 3) := by decide +kernel
theorem dX6_narrowed_43 : decode cX6_narrowed 43 = .ok (.aload_n 0, 1) := by decide +kernel
theorem dX6_narrowed_44 : decode cX6_narrowed 44 = .ok (.getfield 32, 3) := by decide +kernel
theorem dX6_narrowed_47 : decode cX6_narrowed 47 = .ok (.iload_n 1, 1) := by decide +kernel
theorem dX6_narrowed_48 : decode cX6_narrowed 48 = .ok (.invokevirtual 113, 3) := by decide +kernel
theorem dX6_narrowed_51 : decode cX6_narrowed 51 = .ok (.ireturn, 1) := by decide +kernel
theorem dX6_tells_0 : decode cX6_tells 0 = .ok (.iload_n 1, 1) := by decide +kernel
theorem dX6_tells_1 : decode cX6_tells 1 = .ok (.iload_n 2, 1) := by decide +kernel
theorem dX6_tells_2 : decode cX6_tells 2 = .ok (.invokestatic 116, 3) := by decide +kernel
theorem dX6_tells_5 : decode cX6_tells 5 = .ok (.istore_n 3, 1) := by decide +kernel
theorem dX6_tells_6 : decode cX6_tells 6 = .ok (.iload_n 3, 1) := by decide +kernel
theorem dX6_tells_7 : decode cX6_tells 7 = .ok (.ifCond .eq 9, 3) := by decide +kernel
theorem dX6_tells_10 : decode cX6_tells 10 = .ok (.aload_n 0, 1) := by decide +kernel
theorem dX6_tells_11 : decode cX6_tells 11 = .ok (.iload_n 3, 1) := by decide +kernel
theorem dX6_tells_12 : decode cX6_tells 12 = .ok (.invokevirtual 73, 3) := by decide +kernel
theorem dX6_tells_15 : decode cX6_tells 15 = .ok (.ireturn, 1) := by decide +kernel
theorem dX6_tells_16 : decode cX6_tells 16 = .ok (.aload_n 0, 1) := by decide +kernel
theorem dX6_tells_17 : decode cX6_tells 17 = .ok (.getfield 10, 3) := by decide +kernel
theorem dX6_tells_20 : decode cX6_tells 20 = .ok (.aload_n 0, 1) := by decide +kernel
theorem dX6_tells_21 : decode cX6_tells 21 = .ok (.getfield 10, 3) := by decide +kernel
theorem dX6_tells_24 : decode cX6_tells 24 = .ok (.iload_n 1, 1) := by decide +kernel
theorem dX6_tells_25 : decode cX6_tells 25 = .ok (.invokevirtual 77, 3) := by decide +kernel
theorem dX6_tells_28 : decode cX6_tells 28 = .ok (.invokevirtual 80, 3) := by decide +kernel
theorem dX6_tells_31 : decode cX6_tells 31 = .ok (.istore 4, 2) := by decide +kernel
theorem dX6_tells_33 : decode cX6_tells 33 = .ok (.aload_n 0, 1) := by decide +kernel
theorem dX6_tells_34 : decode cX6_tells 34 = .ok (.getfield 10, 3) := by decide +kernel
