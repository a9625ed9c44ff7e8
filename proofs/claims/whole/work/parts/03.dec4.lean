theorem dX7_order_97 : decode cX7_order 97 = .ok (.bipush (-9), 2) := by decide +kernel
theorem dX7_order_99 : decode cX7_order 99 = .ok (.istore 6, 2) := by decide +kernel
theorem dX7_order_101 : decode cX7_order 101 = .ok (.bipush (-9), 2) := by decide +kernel
theorem dX7_order_103 : decode cX7_order 103 = .ok (.istore 7, 2) := by decide +kernel
theorem dX7_order_105 : decode cX7_order 105 = .ok (.iconst 0, 1) := by decide +kernel
theorem dX7_order_106 : decode cX7_order 106 = .ok (.istore 8, 2) := by decide +kernel
theorem dX7_order_108 : decode cX7_order 108 = .ok (.iload 8, 2) := by decide +kernel
theorem dX7_order_110 : decode cX7_order 110 = .ok (.sipush 300, 3) := by decide +kernel
theorem dX7_order_113 : decode cX7_order 113 = .ok (.if_icmp .ge 48, 3) := by decide +kernel
theorem dX7_order_116 : decode cX7_order 116 = .ok (.iload 8, 2) := by decide +kernel
theorem dX7_order_118 : decode cX7_order 118 = .ok (.invokestatic 353, 3) := by decide +kernel
theorem dX7_order_121 : decode cX7_order 121 = .ok (.ifCond .eq 12, 3) := by decide +kernel
theorem dX7_order_124 : decode cX7_order 124 = .ok (.aload_n 0, 1) := by decide +kernel
theorem dX7_order_125 : decode cX7_order 125 = .ok (.iload 8, 2) := by decide +kernel
theorem dX7_order_127 : decode cX7_order 127 = .ok (.invokevirtual 356, 3) := by decide +kernel
theorem dX7_order_130 : decode cX7_order 130 = .ok (.goto 5, 3) := by decide +kernel
theorem dX7_order_133 : decode cX7_order 133 = .ok (.bipush (-9), 2) := by decide +kernel
theorem dX7_order_135 : decode cX7_order 135 = .ok (.istore 9, 2) := by decide +kernel
theorem dX7_order_137 : decode cX7_order 137 = .ok (.iload 9, 2) := by decide +kernel
theorem dX7_order_139 : decode cX7_order 139 = .ok (.iload 7, 2) := by decide +kernel
theorem dX7_order_141 : decode cX7_order 141 = .ok (.if_icmp .gt 6, 3) := by decide +kernel
theorem dX7_order_144 : decode cX7_order 144 = .ok (.goto 11, 3) := by decide +kernel
theorem dX7_order_147 : decode cX7_order 147 = .ok (.iload 8, 2) := by decide +kernel
theorem dX7_order_149 : decode cX7_order 149 = .ok (.istore 6, 2) := by decide +kernel
theorem dX7_order_151 : decode cX7_order 151 = .ok (.iload 9, 2) := by decide +kernel
theorem dX7_order_153 : decode cX7_order 153 = .ok (.istore 7, 2) := by decide +kernel
theorem dX7_order_155 : decode cX7_order 155 = .ok (.iinc 8 1, 3) := by decide +kernel
theorem dX7_order_158 : decode cX7_order 158 = .ok (.goto (-50), 3) := by decide +kernel
theorem dX7_order_161 : decode cX7_order 161 = .ok (.iload 4, 2) := by decide +kernel
theorem dX7_order_163 : decode cX7_order 163 = .ok (.ifCond .ne 8, 3) := by decide +kernel
theorem dX7_order_166 : decode cX7_order 166 = .ok (.iload 6, 2) := by decide +kernel
theorem dX7_order_168 : decode cX7_order 168 = .ok (.goto 5, 3) := by decide +kernel
theorem dX7_order_171 : decode cX7_order 171 = .ok (.iload 7, 2) := by decide +kernel
theorem dX7_order_173 : decode cX7_order 173 = .ok (.ireturn, 1) := by decide +kernel
theorem dX7_getsFor_0 : decode cX7_getsFor 0 = .ok (.aload_n 0, 1) := by decide +kernel
theorem dX7_getsFor_1 : decode cX7_getsFor 1 = .ok (.iload_n 1, 1) := by decide +kernel
theorem dX7_getsFor_2 : decode cX7_getsFor 2 = .ok (.invokevirtual 350, 3) := by decide +kernel
theorem dX7_getsFor_5 : decode cX7_getsFor 5 = .ok (.istore_n 2, 1) := by decide +kernel
theorem dX7_getsFor_6 : decode cX7_getsFor 6 = .ok (.iload_n 2, 1) := by decide +kernel
theorem dX7_getsFor_7 : decode cX7_getsFor 7 = .ok (.iconst 1, 1) := by decide +kernel
theorem dX7_getsFor_8 : decode cX7_getsFor 8 = .ok (.if_icmp .ne 7, 3) := by decide +kernel
theorem dX7_getsFor_11 : decode cX7_getsFor 11 = .ok (.iconst 3, 1) := by decide +kernel
theorem dX7_getsFor_12 : decode cX7_getsFor 12 = .ok (.goto 12, 3) := by decide +kernel
theorem dX7_getsFor_15 : decode cX7_getsFor 15 = .ok (.iload_n 2, 1) := by decide +kernel
theorem dX7_getsFor_16 : decode cX7_getsFor 16 = .ok (.ifCond .ne 7, 3) := by decide +kernel
theorem dX7_getsFor_19 : decode cX7_getsFor 19 = .ok (.iconst 1, 1) := by decide +kernel
theorem dX7_getsFor_20 : decode cX7_getsFor 20 = .ok (.goto 4, 3) := by decide +kernel
theorem dX7_getsFor_23 : decode cX7_getsFor 23 = .ok (.iconst (-1), 1) := by decide +kernel
theorem dX7_getsFor_24 : decode cX7_getsFor 24 = .ok (.ireturn, 1) := by decide +kernel
theorem dX7_findEnds_0 : decode cX7_findEnds 0 = .ok (.iconst 0, 1) := by decide +kernel
theorem dX7_findEnds_1 : decode cX7_findEnds 1 = .ok (.istore_n 3, 1) := by decide +kernel
theorem dX7_findEnds_2 : decode cX7_findEnds 2 = .ok (.iload_n 3, 1) := by decide +kernel
theorem dX7_findEnds_3 : decode cX7_findEnds 3 = .ok (.iconst 4, 1) := by decide +kernel
theorem dX7_findEnds_4 : decode cX7_findEnds 4 = .ok (.if_icmp .ge 67, 3) := by decide +kernel
theorem dX7_findEnds_7 : decode cX7_findEnds 7 = .ok (.aload_n 0, 1) := by decide +kernel
theorem dX7_findEnds_8 : decode cX7_findEnds 8 = .ok (.invokevirtual 341, 3) := by decide +kernel
theorem dX7_findEnds_11 : decode cX7_findEnds 11 = .ok (.aload_n 0, 1) := by decide +kernel
theorem dX7_findEnds_12 : decode cX7_findEnds 12 = .ok (.getfield 80, 3) := by decide +kernel
theorem dX7_findEnds_15 : decode cX7_findEnds 15 = .ok (.iconst 2, 1) := by decide +kernel
theorem dX7_findEnds_16 : decode cX7_findEnds 16 = .ok (.iload_n 3, 1) := by decide +kernel
theorem dX7_findEnds_17 : decode cX7_findEnds 17 = .ok (.imul, 1) := by decide +kernel
theorem dX7_findEnds_18 : decode cX7_findEnds 18 = .ok (.iload_n 3, 1) := by decide +kernel
theorem dX7_findEnds_19 : decode cX7_findEnds 19 = .ok (.iconst 2, 1) := by decide +kernel
theorem dX7_findEnds_20 : decode cX7_findEnds 20 = .ok (.idiv, 1) := by decide +kernel
theorem dX7_findEnds_21 : decode cX7_findEnds 21 = .ok (.iconst 1, 1) := by decide +kernel
theorem dX7_findEnds_22 : decode cX7_findEnds 22 = .ok (.if_icmp .ne 11, 3) := by decide +kernel
theorem dX7_findEnds_25 : decode cX7_findEnds 25 = .ok (.aload_n 0, 1) := by decide +kernel
theorem dX7_findEnds_26 : decode cX7_findEnds 26 = .ok (.iload_n 1, 1) := by decide +kernel
theorem dX7_findEnds_27 : decode cX7_findEnds 27 = .ok (.invokevirtual 359, 3) := by decide +kernel
theorem dX7_findEnds_30 : decode cX7_findEnds 30 = .ok (.goto 4, 3) := by decide +kernel
theorem dX7_findEnds_33 : decode cX7_findEnds 33 = .ok (.iconst 0, 1) := by decide +kernel
theorem dX7_findEnds_34 : decode cX7_findEnds 34 = .ok (.iastore, 1) := by decide +kernel
theorem dX7_findEnds_35 : decode cX7_findEnds 35 = .ok (.aload_n 0, 1) := by decide +kernel
theorem dX7_findEnds_36 : decode cX7_findEnds 36 = .ok (.getfield 80, 3) := by decide +kernel
theorem dX7_findEnds_39 : decode cX7_findEnds 39 = .ok (.iconst 2, 1) := by decide +kernel
theorem dX7_findEnds_40 : decode cX7_findEnds 40 = .ok (.iload_n 3, 1) := by decide +kernel
theorem dX7_findEnds_41 : decode cX7_findEnds 41 = .ok (.imul, 1) := by decide +kernel
theorem dX7_findEnds_42 : decode cX7_findEnds 42 = .ok (.iconst 1, 1) := by decide +kernel
theorem dX7_findEnds_43 : decode cX7_findEnds 43 = .ok (.iadd, 1) := by decide +kernel
theorem dX7_findEnds_44 : decode cX7_findEnds 44 = .ok (.iload_n 3, 1) := by decide +kernel
theorem dX7_findEnds_45 : decode cX7_findEnds 45 = .ok (.iconst 2, 1) := by decide +kernel
theorem dX7_findEnds_46 : decode cX7_findEnds 46 = .ok (.irem, 1) := by decide +kernel
theorem dX7_findEnds_47 : decode cX7_findEnds 47 = .ok (.iconst 1, 1) := by decide +kernel
theorem dX7_findEnds_48 : decode cX7_findEnds 48 = .ok (.if_icmp .ne 11, 3) := by decide +kernel
theorem dX7_findEnds_51 : decode cX7_findEnds 51 = .ok (.aload_n 0, 1) := by decide +kernel
theorem dX7_findEnds_52 : decode cX7_findEnds 52 = .ok (.iload_n 2, 1) := by decide +kernel
theorem dX7_findEnds_53 : decode cX7_findEnds 53 = .ok (.invokevirtual 359, 3) := by decide +kernel
theorem dX7_findEnds_56 : decode cX7_findEnds 56 = .ok (.goto 4, 3) := by decide +kernel
theorem dX7_findEnds_59 : decode cX7_findEnds 59 = .ok (.iconst 0, 1) := by decide +kernel
theorem dX7_findEnds_60 : decode cX7_findEnds 60 = .ok (.iastore, 1) := by decide +kernel
theorem dX7_findEnds_61 : decode cX7_findEnds 61 = .ok (.aload_n 0, 1) := by decide +kernel
theorem dX7_findEnds_62 : decode cX7_findEnds 62 = .ok (.invokevirtual 347, 3) := by decide +kernel
theorem dX7_findEnds_65 : decode cX7_findEnds 65 = .ok (.iinc 3 1, 3) := by decide +kernel
theorem dX7_findEnds_68 : decode cX7_findEnds 68 = .ok (.goto (-66), 3) := by decide +kernel
theorem dX7_findEnds_71 : decode cX7_findEnds 71 = .ok (.return_, 1) := by decide +kernel
theorem dX7_two_0 : decode cX7_two 0 = .ok (.iload_n 1, 1) := by decide +kernel
theorem dX7_two_1 : decode cX7_two 1 = .ok (.iconst 1, 1) := by decide +kernel
theorem dX7_two_2 : decode cX7_two 2 = .ok (.if_icmp .lt 8, 3) := by decide +kernel
theorem dX7_two_5 : decode cX7_two 5 = .ok (.iload_n 2, 1) := by decide +kernel
theorem dX7_two_6 : decode cX7_two 6 = .ok (.iconst 1, 1) := by decide +kernel
theorem dX7_two_7 : decode cX7_two 7 = .ok (.if_icmp .ge 8, 3) := by decide +kernel
theorem dX7_two_10 : decode cX7_two 10 = .ok (.bipush (-4), 2) := by decide +kernel
theorem dX7_two_12 : decode cX7_two 12 = .ok (.goto 23, 3) := by decide +kernel
theorem dX7_two_15 : decode cX7_two 15 = .ok (.iload_n 1, 1) := by decide +kernel
theorem dX7_two_16 : decode cX7_two 16 = .ok (.sipush 255, 3) := by decide +kernel
theorem dX7_two_19 : decode cX7_two 19 = .ok (.if_icmp .gt 10, 3) := by decide +kernel
theorem dX7_two_22 : decode cX7_two 22 = .ok (.iload_n 2, 1) := by decide +kernel
theorem dX7_two_23 : decode cX7_two 23 = .ok (.sipush 255, 3) := by decide +kernel
theorem dX7_two_26 : decode cX7_two 26 = .ok (.if_icmp .le 8, 3) := by decide +kernel
theorem dX7_two_29 : decode cX7_two 29 = .ok (.bipush (-6), 2) := by decide +kernel
theorem dX7_two_31 : decode cX7_two 31 = .ok (.goto 4, 3) := by decide +kernel
theorem dX7_two_34 : decode cX7_two 34 = .ok (.iconst 0, 1) := by decide +kernel
theorem dX7_two_35 : decode cX7_two 35 = .ok (.istore_n 3, 1) := by decide +kernel
theorem dX7_two_36 : decode cX7_two 36 = .ok (.iload_n 3, 1) := by decide +kernel
theorem dX7_two_37 : decode cX7_two 37 = .ok (.ifCond .eq 9, 3) := by decide +kernel
theorem dX7_two_40 : decode cX7_two 40 = .ok (.aload_n 0, 1) := by decide +kernel
theorem dX7_two_41 : decode cX7_two 41 = .ok (.iload_n 3, 1) := by decide +kernel
theorem dX7_two_42 : decode cX7_two 42 = .ok (.invokevirtual 213, 3) := by decide +kernel
theorem dX7_two_45 : decode cX7_two 45 = .ok (.ireturn, 1) := by decide +kernel
theorem dX7_two_46 : decode cX7_two 46 = .ok (.aload_n 0, 1) := by decide +kernel
theorem dX7_two_47 : decode cX7_two 47 = .ok (.iload_n 1, 1) := by decide +kernel
theorem dX7_two_48 : decode cX7_two 48 = .ok (.iload_n 2, 1) := by decide +kernel
theorem dX7_two_49 : decode cX7_two 49 = .ok (.invokevirtual 362, 3) := by decide +kernel
theorem dX7_two_52 : decode cX7_two 52 = .ok (.iconst 0, 1) := by decide +kernel
theorem dX7_two_53 : decode cX7_two 53 = .ok (.istore 4, 2) := by decide +kernel
theorem dX7_two_55 : decode cX7_two 55 = .ok (.iload 4, 2) := by decide +kernel
theorem dX7_two_57 : decode cX7_two 57 = .ok (.iconst 4, 1) := by decide +kernel
theorem dX7_two_58 : decode cX7_two 58 = .ok (.if_icmp .ge 72, 3) := by decide +kernel
theorem dX7_two_61 : decode cX7_two 61 = .ok (.aload_n 0, 1) := by decide +kernel
theorem dX7_two_62 : decode cX7_two 62 = .ok (.getfield 80, 3) := by decide +kernel
theorem dX7_two_65 : decode cX7_two 65 = .ok (.iconst 2, 1) := by decide +kernel
theorem dX7_two_66 : decode cX7_two 66 = .ok (.iload 4, 2) := by decide +kernel
theorem dX7_two_68 : decode cX7_two 68 = .ok (.iconst 2, 1) := by decide +kernel
theorem dX7_two_69 : decode cX7_two 69 = .ok (.ixor, 1) := by decide +kernel
theorem dX7_two_70 : decode cX7_two 70 = .ok (.imul, 1) := by decide +kernel
theorem dX7_two_71 : decode cX7_two 71 = .ok (.iaload, 1) := by decide +kernel
theorem dX7_two_72 : decode cX7_two 72 = .ok (.aload_n 0, 1) := by decide +kernel
theorem dX7_two_73 : decode cX7_two 73 = .ok (.getfield 80, 3) := by decide +kernel
theorem dX7_two_76 : decode cX7_two 76 = .ok (.iconst 2, 1) := by decide +kernel
theorem dX7_two_77 : decode cX7_two 77 = .ok (.iload 4, 2) := by decide +kernel
theorem dX7_two_79 : decode cX7_two 79 = .ok (.imul, 1) := by decide +kernel
theorem dX7_two_80 : decode cX7_two 80 = .ok (.iaload, 1) := by decide +kernel
theorem dX7_two_81 : decode cX7_two 81 = .ok (.if_icmp .gt 43, 3) := by decide +kernel
theorem dX7_two_84 : decode cX7_two 84 = .ok (.aload_n 0, 1) := by decide +kernel
theorem dX7_two_85 : decode cX7_two 85 = .ok (.getfield 80, 3) := by decide +kernel
theorem dX7_two_88 : decode cX7_two 88 = .ok (.iconst 2, 1) := by decide +kernel
theorem dX7_two_89 : decode cX7_two 89 = .ok (.iload 4, 2) := by decide +kernel
theorem dX7_two_91 : decode cX7_two 91 = .ok (.iconst 1, 1) := by decide +kernel
theorem dX7_two_92 : decode cX7_two 92 = .ok (.ixor, 1) := by decide +kernel
theorem dX7_two_93 : decode cX7_two 93 = .ok (.imul, 1) := by decide +kernel
theorem dX7_two_94 : decode cX7_two 94 = .ok (.iconst 1, 1) := by decide +kernel
theorem dX7_two_95 : decode cX7_two 95 = .ok (.iadd, 1) := by decide +kernel
theorem dX7_two_96 : decode cX7_two 96 = .ok (.iaload, 1) := by decide +kernel
theorem dX7_two_97 : decode cX7_two 97 = .ok (.aload_n 0, 1) := by decide +kernel
theorem dX7_two_98 : decode cX7_two 98 = .ok (.getfield 80, 3) := by decide +kernel
theorem dX7_two_101 : decode cX7_two 101 = .ok (.iconst 2, 1) := by decide +kernel
theorem dX7_two_102 : decode cX7_two 102 = .ok (.iload 4, 2) := by decide +kernel
theorem dX7_two_104 : decode cX7_two 104 = .ok (.imul, 1) := by decide +kernel
theorem dX7_two_105 : decode cX7_two 105 = .ok (.iconst 1, 1) := by decide +kernel
theorem dX7_two_106 : decode cX7_two 106 = .ok (.iadd, 1) := by decide +kernel
theorem dX7_two_107 : decode cX7_two 107 = .ok (.iaload, 1) := by decide +kernel
theorem dX7_two_108 : decode cX7_two 108 = .ok (.if_icmp .gt 16, 3) := by decide +kernel
theorem dX7_two_111 : decode cX7_two 111 = .ok (.bipush 10, 2) := by decide +kernel
theorem dX7_two_113 : decode cX7_two 113 = .ok (.iload 4, 2) := by decide +kernel
theorem dX7_two_115 : decode cX7_two 115 = .ok (.iconst 2, 1) := by decide +kernel
theorem dX7_two_116 : decode cX7_two 116 = .ok (.idiv, 1) := by decide +kernel
theorem dX7_two_117 : decode cX7_two 117 = .ok (.imul, 1) := by decide +kernel
theorem dX7_two_118 : decode cX7_two 118 = .ok (.iload 4, 2) := by decide +kernel
theorem dX7_two_120 : decode cX7_two 120 = .ok (.iconst 2, 1) := by decide +kernel
theorem dX7_two_121 : decode cX7_two 121 = .ok (.irem, 1) := by decide +kernel
theorem dX7_two_122 : decode cX7_two 122 = .ok (.iadd, 1) := by decide +kernel
theorem dX7_two_123 : decode cX7_two 123 = .ok (.ireturn, 1) := by decide +kernel
theorem dX7_two_124 : decode cX7_two 124 = .ok (.iinc 4 1, 3) := by decide +kernel
theorem dX7_two_127 : decode cX7_two 127 = .ok (.goto (-72), 3) := by decide +kernel
theorem dX7_two_130 : decode cX7_two 130 = .ok (.bipush (-9), 2) := by decide +kernel
theorem dX7_two_132 : decode cX7_two 132 = .ok (.ireturn, 1) := by decide +kernel
theorem dX7_mean_0 : decode cX7_mean 0 = .ok (.iload_n 1, 1) := by decide +kernel
theorem dX7_mean_1 : decode cX7_mean 1 = .ok (.iconst 0, 1) := by decide +kernel
theorem dX7_mean_2 : decode cX7_mean 2 = .ok (.iconst 1, 1) := by decide +kernel
theorem dX7_mean_3 : decode cX7_mean 3 = .ok (.invokestatic 96, 3) := by decide +kernel
theorem dX7_mean_6 : decode cX7_mean 6 = .ok (.ifCond .ne 10, 3) := by decide +kernel
theorem dX7_mean_9 : decode cX7_mean 9 = .ok (.aload_n 0, 1) := by decide +kernel
theorem dX7_mean_10 : decode cX7_mean 10 = .ok (.bipush (-2), 2) := by decide +kernel
theorem dX7_mean_12 : decode cX7_mean 12 = .ok (.invokevirtual 309, 3) := by decide +kernel
theorem dX7_mean_15 : decode cX7_mean 15 = .ok (.lreturn, 1) := by decide +kernel
theorem dX7_mean_16 : decode cX7_mean 16 = .ok (.aload_n 0, 1) := by decide +kernel
theorem dX7_mean_17 : decode cX7_mean 17 = .ok (.invokevirtual 332, 3) := by decide +kernel
theorem dX7_mean_20 : decode cX7_mean 20 = .ok (.iconst 0, 1) := by decide +kernel
theorem dX7_mean_21 : decode cX7_mean 21 = .ok (.istore_n 2, 1) := by decide +kernel
theorem dX7_mean_22 : decode cX7_mean 22 = .ok (.iconst 0, 1) := by decide +kernel
theorem dX7_mean_23 : decode cX7_mean 23 = .ok (.istore_n 3, 1) := by decide +kernel
theorem dX7_mean_24 : decode cX7_mean 24 = .ok (.iload_n 3, 1) := by decide +kernel
theorem dX7_mean_25 : decode cX7_mean 25 = .ok (.aload_n 0, 1) := by decide +kernel
theorem dX7_mean_26 : decode cX7_mean 26 = .ok (.getfield 86, 3) := by decide +kernel
theorem dX7_mean_29 : decode cX7_mean 29 = .ok (.if_icmp .ge 17, 3) := by decide +kernel
theorem dX7_mean_32 : decode cX7_mean 32 = .ok (.iload_n 2, 1) := by decide +kernel
theorem dX7_mean_33 : decode cX7_mean 33 = .ok (.aload_n 0, 1) := by decide +kernel
theorem dX7_mean_34 : decode cX7_mean 34 = .ok (.iload_n 3, 1) := by decide +kernel
theorem dX7_mean_35 : decode cX7_mean 35 = .ok (.invokevirtual 335, 3) := by decide +kernel
theorem dX7_mean_38 : decode cX7_mean 38 = .ok (.iadd, 1) := by decide +kernel
theorem dX7_mean_39 : decode cX7_mean 39 = .ok (.istore_n 2, 1) := by decide +kernel
theorem dX7_mean_40 : decode cX7_mean 40 = .ok (.iinc 3 1, 3) := by decide +kernel
theorem dX7_mean_43 : decode cX7_mean 43 = .ok (.goto (-19), 3) := by decide +kernel
theorem dX7_mean_46 : decode cX7_mean 46 = .ok (.iload_n 2, 1) := by decide +kernel
theorem dX7_mean_47 : decode cX7_mean 47 = .ok (.i2l, 1) := by decide +kernel
theorem dX7_mean_48 : decode cX7_mean 48 = .ok (.aload_n 0, 1) := by decide +kernel
theorem dX7_mean_49 : decode cX7_mean 49 = .ok (.getfield 86, 3) := by decide +kernel
theorem dX7_mean_52 : decode cX7_mean 52 = .ok (.i2l, 1) := by decide +kernel
theorem dX7_mean_53 : decode cX7_mean 53 = .ok (.iload_n 1, 1) := by decide +kernel
theorem dX7_mean_54 : decode cX7_mean 54 = .ok (.invokestatic 316, 3) := by decide +kernel
theorem dX7_mean_57 : decode cX7_mean 57 = .ok (.lreturn, 1) := by decide +kernel
theorem dX7_share_0 : decode cX7_share 0 = .ok (.iload_n 1, 1) := by decide +kernel
theorem dX7_share_1 : decode cX7_share 1 = .ok (.iconst 0, 1) := by decide +kernel
theorem dX7_share_2 : decode cX7_share 2 = .ok (.iconst 1, 1) := by decide +kernel
theorem dX7_share_3 : decode cX7_share 3 = .ok (.invokestatic 96, 3) := by decide +kernel
theorem dX7_share_6 : decode cX7_share 6 = .ok (.ifCond .ne 10, 3) := by decide +kernel
theorem dX7_share_9 : decode cX7_share 9 = .ok (.aload_n 0, 1) := by decide +kernel
theorem dX7_share_10 : decode cX7_share 10 = .ok (.bipush (-2), 2) := by decide +kernel
theorem dX7_share_12 : decode cX7_share 12 = .ok (.invokevirtual 309, 3) := by decide +kernel
theorem dX7_share_15 : decode cX7_share 15 = .ok (.lreturn, 1) := by decide +kernel
theorem dX7_share_16 : decode cX7_share 16 = .ok (.aload_n 0, 1) := by decide +kernel
theorem dX7_share_17 : decode cX7_share 17 = .ok (.invokevirtual 297, 3) := by decide +kernel
theorem dX7_share_20 : decode cX7_share 20 = .ok (.sipush 255, 3) := by decide +kernel
theorem dX7_share_23 : decode cX7_share 23 = .ok (.aload_n 0, 1) := by decide +kernel
theorem dX7_share_24 : decode cX7_share 24 = .ok (.getfield 68, 3) := by decide +kernel
theorem dX7_share_27 : decode cX7_share 27 = .ok (.iconst 2, 1) := by decide +kernel
theorem dX7_share_28 : decode cX7_share 28 = .ok (.iaload, 1) := by decide +kernel
theorem dX7_share_29 : decode cX7_share 29 = .ok (.isub, 1) := by decide +kernel
theorem dX7_share_30 : decode cX7_share 30 = .ok (.i2l, 1) := by decide +kernel
theorem dX7_share_31 : decode cX7_share 31 = .ok (.ldc2_w 365, 3) := by decide +kernel
theorem dX7_share_34 : decode cX7_share 34 = .ok (.iload_n 1, 1) := by decide +kernel
theorem dX7_share_35 : decode cX7_share 35 = .ok (.invokestatic 316, 3) := by decide +kernel
theorem dX7_share_38 : decode cX7_share 38 = .ok (.lreturn, 1) := by decide +kernel
theorem dX7_isRowQuestions_0 : decode cX7_isRowQuestions 0 = .ok (.iconst 0, 1) := by decide +kernel
theorem dX7_isRowQuestions_1 : decode cX7_isRowQuestions 1 = .ok (.istore_n 1, 1) := by decide +kernel
theorem dX7_isRowQuestions_2 : decode cX7_isRowQuestions 2 = .ok (.iload_n 1, 1) := by decide +kernel
theorem dX7_isRowQuestions_3 : decode cX7_isRowQuestions 3 = .ok (.aload_n 0, 1) := by decide +kernel
theorem dX7_isRowQuestions_4 : decode cX7_isRowQuestions 4 = .ok (.getfield 367, 3) := by decide +kernel
theorem dX7_isRowQuestions_7 : decode cX7_isRowQuestions 7 = .ok (.if_icmp .ge 20, 3) := by decide +kernel
theorem dX7_isRowQuestions_10 : decode cX7_isRowQuestions 10 = .ok (.aload_n 0, 1) := by decide +kernel
theorem dX7_isRowQuestions_11 : decode cX7_isRowQuestions 11 = .ok (.getfield 83, 3) := by decide +kernel
theorem dX7_isRowQuestions_14 : decode cX7_isRowQuestions 14 = .ok (.iload_n 1, 1) := by decide +kernel
theorem dX7_isRowQuestions_15 : decode cX7_isRowQuestions 15 = .ok (.iaload, 1) := by decide +kernel
theorem dX7_isRowQuestions_16 : decode cX7_isRowQuestions 16 = .ok (.ifCond .ne 5, 3) := by decide +kernel
theorem dX7_isRowQuestions_19 : decode cX7_isRowQuestions 19 = .ok (.iconst 0, 1) := by decide +kernel
theorem dX7_isRowQuestions_20 : decode cX7_isRowQuestions 20 = .ok (.ireturn, 1) := by decide +kernel
theorem dX7_isRowQuestions_21 : decode cX7_isRowQuestions 21 = .ok (.iinc 1 2, 3) := by decide +kernel
theorem dX7_isRowQuestions_24 : decode cX7_isRowQuestions 24 = .ok (.goto (-22), 3) := by decide +kernel
theorem dX7_isRowQuestions_27 : decode cX7_isRowQuestions 27 = .ok (.aload_n 0, 1) := by decide +kernel
theorem dX7_isRowQuestions_28 : decode cX7_isRowQuestions 28 = .ok (.getfield 367, 3) := by decide +kernel
theorem dX7_isRowQuestions_31 : decode cX7_isRowQuestions 31 = .ok (.iconst 2, 1) := by decide +kernel
theorem dX7_isRowQuestions_32 : decode cX7_isRowQuestions 32 = .ok (.irem, 1) := by decide +kernel
theorem dX7_isRowQuestions_33 : decode cX7_isRowQuestions 33 = .ok (.ifCond .ne 7, 3) := by decide +kernel
theorem dX7_isRowQuestions_36 : decode cX7_isRowQuestions 36 = .ok (.iconst 1, 1) := by decide +kernel
theorem dX7_isRowQuestions_37 : decode cX7_isRowQuestions 37 = .ok (.goto 4, 3) := by decide +kernel
theorem dX7_isRowQuestions_40 : decode cX7_isRowQuestions 40 = .ok (.iconst 0, 1) := by decide +kernel
theorem dX7_isRowQuestions_41 : decode cX7_isRowQuestions 41 = .ok (.ireturn, 1) := by decide +kernel
theorem dX7_isMetSo_0 : decode cX7_isMetSo 0 = .ok (.iconst 0, 1) := by decide +kernel
theorem dX7_isMetSo_1 : decode cX7_isMetSo 1 = .ok (.istore_n 3, 1) := by decide +kernel
theorem dX7_isMetSo_2 : decode cX7_isMetSo 2 = .ok (.iload_n 3, 1) := by decide +kernel
theorem dX7_isMetSo_3 : decode cX7_isMetSo 3 = .ok (.aload_n 0, 1) := by decide +kernel
theorem dX7_isMetSo_4 : decode cX7_isMetSo 4 = .ok (.getfield 367, 3) := by decide +kernel
theorem dX7_isMetSo_7 : decode cX7_isMetSo 7 = .ok (.if_icmp .ge 40, 3) := by decide +kernel
theorem dX7_isMetSo_10 : decode cX7_isMetSo 10 = .ok (.aload_n 0, 1) := by decide +kernel
theorem dX7_isMetSo_11 : decode cX7_isMetSo 11 = .ok (.iconst 0, 1) := by decide +kernel
theorem dX7_isMetSo_12 : decode cX7_isMetSo 12 = .ok (.aload_n 0, 1) := by decide +kernel
theorem dX7_isMetSo_13 : decode cX7_isMetSo 13 = .ok (.getfield 83, 3) := by decide +kernel
theorem dX7_isMetSo_16 : decode cX7_isMetSo 16 = .ok (.iload_n 3, 1) := by decide +kernel
theorem dX7_isMetSo_17 : decode cX7_isMetSo 17 = .ok (.iaload, 1) := by decide +kernel
theorem dX7_isMetSo_18 : decode cX7_isMetSo 18 = .ok (.iconst 0, 1) := by decide +kernel
theorem dX7_isMetSo_19 : decode cX7_isMetSo 19 = .ok (.invokevirtual 266, 3) := by decide +kernel
theorem dX7_isMetSo_22 : decode cX7_isMetSo 22 = .ok (.aload_n 0, 1) := by decide +kernel
theorem dX7_isMetSo_23 : decode cX7_isMetSo 23 = .ok (.iload_n 1, 1) := by decide +kernel
theorem dX7_isMetSo_24 : decode cX7_isMetSo 24 = .ok (.iload_n 2, 1) := by decide +kernel
theorem dX7_isMetSo_25 : decode cX7_isMetSo 25 = .ok (.invokevirtual 179, 3) := by decide +kernel
theorem dX7_isMetSo_28 : decode cX7_isMetSo 28 = .ok (.aload_n 0, 1) := by decide +kernel
theorem dX7_isMetSo_29 : decode cX7_isMetSo 29 = .ok (.getfield 83, 3) := by decide +kernel
theorem dX7_isMetSo_32 : decode cX7_isMetSo 32 = .ok (.iload_n 3, 1) := by decide +kernel
theorem dX7_isMetSo_33 : decode cX7_isMetSo 33 = .ok (.iconst 1, 1) := by decide +kernel
theorem dX7_isMetSo_34 : decode cX7_isMetSo 34 = .ok (.iadd, 1) := by decide +kernel
theorem dX7_isMetSo_35 : decode cX7_isMetSo 35 = .ok (.iaload, 1) := by decide +kernel
theorem dX7_isMetSo_36 : decode cX7_isMetSo 36 = .ok (.if_icmp .eq 5, 3) := by decide +kernel
theorem dX7_isMetSo_39 : decode cX7_isMetSo 39 = .ok (.iconst 0, 1) := by decide +kernel
theorem dX7_isMetSo_40 : decode cX7_isMetSo 40 = .ok (.ireturn, 1) := by decide +kernel
theorem dX7_isMetSo_41 : decode cX7_isMetSo 41 = .ok (.iinc 3 2, 3) := by decide +kernel
theorem dX7_isMetSo_44 : decode cX7_isMetSo 44 = .ok (.goto (-42), 3) := by decide +kernel
theorem dX7_isMetSo_47 : decode cX7_isMetSo 47 = .ok (.iconst 1, 1) := by decide +kernel
theorem dX7_isMetSo_48 : decode cX7_isMetSo 48 = .ok (.ireturn, 1) := by decide +kernel
theorem dX7_which_0 : decode cX7_which 0 = .ok (.iload_n 1, 1) := by decide +kernel
theorem dX7_which_1 : decode cX7_which 1 = .ok (.iconst 0, 1) := by decide +kernel
theorem dX7_which_2 : decode cX7_which 2 = .ok (.iconst 1, 1) := by decide +kernel
theorem dX7_which_3 : decode cX7_which 3 = .ok (.invokestatic 96, 3) := by decide +kernel
theorem dX7_which_6 : decode cX7_which 6 = .ok (.ifCond .ne 8, 3) := by decide +kernel
theorem dX7_which_9 : decode cX7_which 9 = .ok (.bipush (-2), 2) := by decide +kernel
theorem dX7_which_11 : decode cX7_which 11 = .ok (.goto 16, 3) := by decide +kernel
theorem dX7_which_14 : decode cX7_which 14 = .ok (.aload_n 0, 1) := by decide +kernel
theorem dX7_which_15 : decode cX7_which 15 = .ok (.invokevirtual 370, 3) := by decide +kernel
theorem dX7_which_18 : decode cX7_which 18 = .ok (.ifCond .ne 8, 3) := by decide +kernel
theorem dX7_which_21 : decode cX7_which 21 = .ok (.bipush (-3), 2) := by decide +kernel
theorem dX7_which_23 : decode cX7_which 23 = .ok (.goto 4, 3) := by decide +kernel
theorem dX7_which_26 : decode cX7_which 26 = .ok (.iconst 0, 1) := by decide +kernel
theorem dX7_which_27 : decode cX7_which 27 = .ok (.istore_n 2, 1) := by decide +kernel
theorem dX7_which_28 : decode cX7_which 28 = .ok (.iload_n 2, 1) := by decide +kernel
theorem dX7_which_29 : decode cX7_which 29 = .ok (.ifCond .eq 9, 3) := by decide +kernel
theorem dX7_which_32 : decode cX7_which 32 = .ok (.aload_n 0, 1) := by decide +kernel
theorem dX7_which_33 : decode cX7_which 33 = .ok (.iload_n 2, 1) := by decide +kernel
theorem dX7_which_34 : decode cX7_which 34 = .ok (.invokevirtual 213, 3) := by decide +kernel
theorem dX7_which_37 : decode cX7_which 37 = .ok (.ireturn, 1) := by decide +kernel
theorem dX7_which_38 : decode cX7_which 38 = .ok (.aload_n 0, 1) := by decide +kernel
theorem dX7_which_39 : decode cX7_which 39 = .ok (.invokevirtual 173, 3) := by decide +kernel
theorem dX7_which_42 : decode cX7_which 42 = .ok (.iconst 0, 1) := by decide +kernel
theorem dX7_which_43 : decode cX7_which 43 = .ok (.istore_n 3, 1) := by decide +kernel
theorem dX7_which_44 : decode cX7_which 44 = .ok (.iconst 0, 1) := by decide +kernel
theorem dX7_which_45 : decode cX7_which 45 = .ok (.istore 4, 2) := by decide +kernel
theorem dX7_which_47 : decode cX7_which 47 = .ok (.iload 4, 2) := by decide +kernel
theorem dX7_which_49 : decode cX7_which 49 = .ok (.iload_n 1, 1) := by decide +kernel
theorem dX7_which_50 : decode cX7_which 50 = .ok (.ifCond .ne 7, 3) := by decide +kernel
theorem dX7_which_53 : decode cX7_which 53 = .ok (.iconst 4, 1) := by decide +kernel
theorem dX7_which_54 : decode cX7_which 54 = .ok (.goto 5, 3) := by decide +kernel
theorem dX7_which_57 : decode cX7_which 57 = .ok (.bipush 11, 2) := by decide +kernel
theorem dX7_which_59 : decode cX7_which 59 = .ok (.if_icmp .ge 54, 3) := by decide +kernel
theorem dX7_which_62 : decode cX7_which 62 = .ok (.iload_n 1, 1) := by decide +kernel
theorem dX7_which_63 : decode cX7_which 63 = .ok (.ifCond .ne 16, 3) := by decide +kernel
theorem dX7_which_66 : decode cX7_which 66 = .ok (.aload_n 0, 1) := by decide +kernel
theorem dX7_which_67 : decode cX7_which 67 = .ok (.iload 4, 2) := by decide +kernel
theorem dX7_which_69 : decode cX7_which 69 = .ok (.aload_n 0, 1) := by decide +kernel
theorem dX7_which_70 : decode cX7_which 70 = .ok (.getfield 90, 3) := by decide +kernel
theorem dX7_which_73 : decode cX7_which 73 = .ok (.invokevirtual 373, 3) := by decide +kernel
theorem dX7_which_76 : decode cX7_which 76 = .ok (.goto 13, 3) := by decide +kernel
theorem dX7_which_79 : decode cX7_which 79 = .ok (.aload_n 0, 1) := by decide +kernel
theorem dX7_which_80 : decode cX7_which 80 = .ok (.aload_n 0, 1) := by decide +kernel
theorem dX7_which_81 : decode cX7_which 81 = .ok (.getfield 176, 3) := by decide +kernel
theorem dX7_which_84 : decode cX7_which 84 = .ok (.iload 4, 2) := by decide +kernel
theorem dX7_which_86 : decode cX7_which 86 = .ok (.invokevirtual 373, 3) := by decide +kernel
theorem dX7_which_89 : decode cX7_which 89 = .ok (.istore 5, 2) := by decide +kernel
theorem dX7_which_91 : decode cX7_which 91 = .ok (.iload_n 3, 1) := by decide +kernel
theorem dX7_which_92 : decode cX7_which 92 = .ok (.iload 5, 2) := by decide +kernel
theorem dX7_which_94 : decode cX7_which 94 = .ok (.ifCond .eq 10, 3) := by decide +kernel
theorem dX7_which_97 : decode cX7_which 97 = .ok (.iconst 1, 1) := by decide +kernel
theorem dX7_which_98 : decode cX7_which 98 = .ok (.iload 4, 2) := by decide +kernel
theorem dX7_which_100 : decode cX7_which 100 = .ok (.ishl, 1) := by decide +kernel
theorem dX7_which_101 : decode cX7_which 101 = .ok (.goto 4, 3) := by decide +kernel
theorem dX7_which_104 : decode cX7_which 104 = .ok (.iconst 0, 1) := by decide +kernel
theorem dX7_which_105 : decode cX7_which 105 = .ok (.ior, 1) := by decide +kernel
theorem dX7_which_106 : decode cX7_which 106 = .ok (.istore_n 3, 1) := by decide +kernel
theorem dX7_which_107 : decode cX7_which 107 = .ok (.iinc 4 1, 3) := by decide +kernel
theorem dX7_which_110 : decode cX7_which 110 = .ok (.goto (-63), 3) := by decide +kernel
theorem dX7_which_113 : decode cX7_which 113 = .ok (.iload_n 3, 1) := by decide +kernel
theorem dX7_which_114 : decode cX7_which 114 = .ok (.ireturn, 1) := by decide +kernel
theorem dX7_row_0 : decode cX7_row 0 = .ok (.iload_n 1, 1) := by decide +kernel
theorem dX7_row_1 : decode cX7_row 1 = .ok (.iconst 0, 1) := by decide +kernel
theorem dX7_row_2 : decode cX7_row 2 = .ok (.sipush 255, 3) := by decide +kernel
theorem dX7_row_5 : decode cX7_row 5 = .ok (.invokestatic 216, 3) := by decide +kernel
theorem dX7_row_8 : decode cX7_row 8 = .ok (.istore_n 2, 1) := by decide +kernel
theorem dX7_row_9 : decode cX7_row 9 = .ok (.iload_n 2, 1) := by decide +kernel
theorem dX7_row_10 : decode cX7_row 10 = .ok (.ifCond .ne 15, 3) := by decide +kernel
theorem dX7_row_13 : decode cX7_row 13 = .ok (.aload_n 0, 1) := by decide +kernel
theorem dX7_row_14 : decode cX7_row 14 = .ok (.getfield 367, 3) := by decide +kernel
theorem dX7_row_17 : decode cX7_row 17 = .ok (.bipush 32, 2) := by decide +kernel
theorem dX7_row_19 : decode cX7_row 19 = .ok (.if_icmp .ne 6, 3) := by decide +kernel
theorem dX7_row_22 : decode cX7_row 22 = .ok (.bipush (-6), 2) := by decide +kernel
theorem dX7_row_24 : decode cX7_row 24 = .ok (.istore_n 2, 1) := by decide +kernel
theorem dX7_row_25 : decode cX7_row 25 = .ok (.iload_n 2, 1) := by decide +kernel
theorem dX7_row_26 : decode cX7_row 26 = .ok (.ifCond .eq 9, 3) := by decide +kernel
theorem dX7_row_29 : decode cX7_row 29 = .ok (.aload_n 0, 1) := by decide +kernel
theorem dX7_row_30 : decode cX7_row 30 = .ok (.iload_n 2, 1) := by decide +kernel
theorem dX7_row_31 : decode cX7_row 31 = .ok (.invokevirtual 213, 3) := by decide +kernel
theorem dX7_row_34 : decode cX7_row 34 = .ok (.ireturn, 1) := by decide +kernel
theorem dX7_row_35 : decode cX7_row 35 = .ok (.aload_n 0, 1) := by decide +kernel
theorem dX7_row_36 : decode cX7_row 36 = .ok (.getfield 83, 3) := by decide +kernel
theorem dX7_row_39 : decode cX7_row 39 = .ok (.aload_n 0, 1) := by decide +kernel
theorem dX7_row_40 : decode cX7_row 40 = .ok (.getfield 367, 3) := by decide +kernel
theorem dX7_row_43 : decode cX7_row 43 = .ok (.iload_n 1, 1) := by decide +kernel
theorem dX7_row_44 : decode cX7_row 44 = .ok (.iastore, 1) := by decide +kernel
theorem dX7_row_45 : decode cX7_row 45 = .ok (.aload_n 0, 1) := by decide +kernel
theorem dX7_row_46 : decode cX7_row 46 = .ok (.dup, 1) := by decide +kernel
theorem dX7_row_47 : decode cX7_row 47 = .ok (.getfield 367, 3) := by decide +kernel
theorem dX7_row_50 : decode cX7_row 50 = .ok (.iconst 1, 1) := by decide +kernel
theorem dX7_row_51 : decode cX7_row 51 = .ok (.iadd, 1) := by decide +kernel
theorem dX7_row_52 : decode cX7_row 52 = .ok (.putfield 367, 3) := by decide +kernel
theorem dX7_row_55 : decode cX7_row 55 = .ok (.aload_n 0, 1) := by decide +kernel
theorem dX7_row_56 : decode cX7_row 56 = .ok (.getfield 367, 3) := by decide +kernel
theorem dX7_row_59 : decode cX7_row 59 = .ok (.ireturn, 1) := by decide +kernel
theorem dX7_answerBy_0 : decode cX7_answerBy 0 = .ok (.iconst 0, 1) := by decide +kernel
theorem dX7_answerBy_1 : decode cX7_answerBy 1 = .ok (.istore_n 3, 1) := by decide +kernel
theorem dX7_answerBy_2 : decode cX7_answerBy 2 = .ok (.iconst 0, 1) := by decide +kernel
theorem dX7_answerBy_3 : decode cX7_answerBy 3 = .ok (.istore 4, 2) := by decide +kernel
theorem dX7_answerBy_5 : decode cX7_answerBy 5 = .ok (.iload 4, 2) := by decide +kernel
theorem dX7_answerBy_7 : decode cX7_answerBy 7 = .ok (.bipush 10, 2) := by decide +kernel
theorem dX7_answerBy_9 : decode cX7_answerBy 9 = .ok (.if_icmp .ge 48, 3) := by decide +kernel
theorem dX7_answerBy_12 : decode cX7_answerBy 12 = .ok (.iload_n 3, 1) := by decide +kernel
theorem dX7_answerBy_13 : decode cX7_answerBy 13 = .ok (.aload_n 0, 1) := by decide +kernel
theorem dX7_answerBy_14 : decode cX7_answerBy 14 = .ok (.getfield 25, 3) := by decide +kernel
theorem dX7_answerBy_17 : decode cX7_answerBy 17 = .ok (.bipush 10, 2) := by decide +kernel
theorem dX7_answerBy_19 : decode cX7_answerBy 19 = .ok (.iload_n 1, 1) := by decide +kernel
theorem dX7_answerBy_20 : decode cX7_answerBy 20 = .ok (.imul, 1) := by decide +kernel
theorem dX7_answerBy_21 : decode cX7_answerBy 21 = .ok (.iload 4, 2) := by decide +kernel
theorem dX7_answerBy_23 : decode cX7_answerBy 23 = .ok (.iadd, 1) := by decide +kernel
theorem dX7_answerBy_24 : decode cX7_answerBy 24 = .ok (.iaload, 1) := by decide +kernel
theorem dX7_answerBy_25 : decode cX7_answerBy 25 = .ok (.iload 4, 2) := by decide +kernel
theorem dX7_answerBy_27 : decode cX7_answerBy 27 = .ok (.iload_n 2, 1) := by decide +kernel
theorem dX7_answerBy_28 : decode cX7_answerBy 28 = .ok (.if_icmp .ge 13, 3) := by decide +kernel
theorem dX7_answerBy_31 : decode cX7_answerBy 31 = .ok (.aload_n 0, 1) := by decide +kernel
theorem dX7_answerBy_32 : decode cX7_answerBy 32 = .ok (.getfield 83, 3) := by decide +kernel
theorem dX7_answerBy_35 : decode cX7_answerBy 35 = .ok (.iload 4, 2) := by decide +kernel
theorem dX7_answerBy_37 : decode cX7_answerBy 37 = .ok (.iaload, 1) := by decide +kernel
theorem dX7_answerBy_38 : decode cX7_answerBy 38 = .ok (.goto 10, 3) := by decide +kernel
theorem dX7_answerBy_41 : decode cX7_answerBy 41 = .ok (.aload_n 0, 1) := by decide +kernel
theorem dX7_answerBy_42 : decode cX7_answerBy 42 = .ok (.getfield 13, 3) := by decide +kernel
theorem dX7_answerBy_45 : decode cX7_answerBy 45 = .ok (.iload 4, 2) := by decide +kernel
theorem dX7_answerBy_47 : decode cX7_answerBy 47 = .ok (.iaload, 1) := by decide +kernel
theorem dX7_answerBy_48 : decode cX7_answerBy 48 = .ok (.imul, 1) := by decide +kernel
theorem dX7_answerBy_49 : decode cX7_answerBy 49 = .ok (.iadd, 1) := by decide +kernel
theorem dX7_answerBy_50 : decode cX7_answerBy 50 = .ok (.istore_n 3, 1) := by decide +kernel
theorem dX7_answerBy_51 : decode cX7_answerBy 51 = .ok (.iinc 4 1, 3) := by decide +kernel
theorem dX7_answerBy_54 : decode cX7_answerBy 54 = .ok (.goto (-49), 3) := by decide +kernel
theorem dX7_answerBy_57 : decode cX7_answerBy 57 = .ok (.iload_n 3, 1) := by decide +kernel
theorem dX7_answerBy_58 : decode cX7_answerBy 58 = .ok (.ireturn, 1) := by decide +kernel
theorem dX7_judge_0 : decode cX7_judge 0 = .ok (.aload_n 0, 1) := by decide +kernel
theorem dX7_judge_1 : decode cX7_judge 1 = .ok (.getfield 367, 3) := by decide +kernel
theorem dX7_judge_4 : decode cX7_judge 4 = .ok (.istore_n 1, 1) := by decide +kernel
theorem dX7_judge_5 : decode cX7_judge 5 = .ok (.aload_n 0, 1) := by decide +kernel
theorem dX7_judge_6 : decode cX7_judge 6 = .ok (.iconst 0, 1) := by decide +kernel
theorem dX7_judge_7 : decode cX7_judge 7 = .ok (.putfield 367, 3) := by decide +kernel
theorem dX7_judge_10 : decode cX7_judge 10 = .ok (.iconst 0, 1) := by decide +kernel
theorem dX7_judge_11 : decode cX7_judge 11 = .ok (.istore_n 2, 1) := by decide +kernel
theorem dX7_judge_12 : decode cX7_judge 12 = .ok (.iload_n 2, 1) := by decide +kernel
theorem dX7_judge_13 : decode cX7_judge 13 = .ok (.aload_n 0, 1) := by decide +kernel
theorem dX7_judge_14 : decode cX7_judge 14 = .ok (.getfield 100, 3) := by decide +kernel
theorem dX7_judge_17 : decode cX7_judge 17 = .ok (.if_icmp .ge 26, 3) := by decide +kernel
theorem dX7_judge_20 : decode cX7_judge 20 = .ok (.aload_n 0, 1) := by decide +kernel
theorem dX7_judge_21 : decode cX7_judge 21 = .ok (.iload_n 2, 1) := by decide +kernel
theorem dX7_judge_22 : decode cX7_judge 22 = .ok (.iload_n 1, 1) := by decide +kernel
theorem dX7_judge_23 : decode cX7_judge 23 = .ok (.invokevirtual 376, 3) := by decide +kernel
theorem dX7_judge_26 : decode cX7_judge 26 = .ok (.aload_n 0, 1) := by decide +kernel
theorem dX7_judge_27 : decode cX7_judge 27 = .ok (.getfield 28, 3) := by decide +kernel
theorem dX7_judge_30 : decode cX7_judge 30 = .ok (.iload_n 2, 1) := by decide +kernel
theorem dX7_judge_31 : decode cX7_judge 31 = .ok (.iaload, 1) := by decide +kernel
theorem dX7_judge_32 : decode cX7_judge 32 = .ok (.if_icmp .eq 5, 3) := by decide +kernel
theorem dX7_judge_35 : decode cX7_judge 35 = .ok (.iload_n 2, 1) := by decide +kernel
theorem dX7_judge_36 : decode cX7_judge 36 = .ok (.ireturn, 1) := by decide +kernel
theorem dX7_judge_37 : decode cX7_judge 37 = .ok (.iinc 2 1, 3) := by decide +kernel
theorem dX7_judge_40 : decode cX7_judge 40 = .ok (.goto (-28), 3) := by decide +kernel
theorem dX7_judge_43 : decode cX7_judge 43 = .ok (.bipush (-9), 2) := by decide +kernel
theorem dX7_judge_45 : decode cX7_judge 45 = .ok (.ireturn, 1) := by decide +kernel
theorem dX7_clear_0 : decode cX7_clear 0 = .ok (.aload_n 0, 1) := by decide +kernel
theorem dX7_clear_1 : decode cX7_clear 1 = .ok (.getfield 367, 3) := by decide +kernel
theorem dX7_clear_4 : decode cX7_clear 4 = .ok (.istore_n 1, 1) := by decide +kernel
theorem dX7_clear_5 : decode cX7_clear 5 = .ok (.aload_n 0, 1) := by decide +kernel
theorem dX7_clear_6 : decode cX7_clear 6 = .ok (.iconst 0, 1) := by decide +kernel
theorem dX7_clear_7 : decode cX7_clear 7 = .ok (.putfield 367, 3) := by decide +kernel
theorem dX7_clear_10 : decode cX7_clear 10 = .ok (.iload_n 1, 1) := by decide +kernel
theorem dX7_clear_11 : decode cX7_clear 11 = .ok (.ireturn, 1) := by decide +kernel
theorem dX7_draw_0 : decode cX7_draw 0 = .ok (.aload_n 0, 1) := by decide +kernel
theorem dX7_draw_1 : decode cX7_draw 1 = .ok (.aload_n 0, 1) := by decide +kernel
theorem dX7_draw_2 : decode cX7_draw 2 = .ok (.getfield 379, 3) := by decide +kernel
theorem dX7_draw_5 : decode cX7_draw 5 = .ok (.ldc_w 382, 3) := by decide +kernel
theorem dX7_draw_8 : decode cX7_draw 8 = .ok (.imul, 1) := by decide +kernel
theorem dX7_draw_9 : decode cX7_draw 9 = .ok (.ldc_w 383, 3) := by decide +kernel
theorem dX7_draw_12 : decode cX7_draw 12 = .ok (.iadd, 1) := by decide +kernel
theorem dX7_draw_13 : decode cX7_draw 13 = .ok (.putfield 379, 3) := by decide +kernel
theorem dX7_draw_16 : decode cX7_draw 16 = .ok (.aload_n 0, 1) := by decide +kernel
theorem dX7_draw_17 : decode cX7_draw 17 = .ok (.getfield 379, 3) := by decide +kernel
theorem dX7_draw_20 : decode cX7_draw 20 = .ok (.ldc_w 384, 3) := by decide +kernel
theorem dX7_draw_23 : decode cX7_draw 23 = .ok (.iand, 1) := by decide +kernel
theorem dX7_draw_24 : decode cX7_draw 24 = .ok (.sipush 256, 3) := by decide +kernel
theorem dX7_draw_27 : decode cX7_draw 27 = .ok (.idiv, 1) := by decide +kernel
theorem dX7_draw_28 : decode cX7_draw 28 = .ok (.iload_n 1, 1) := by decide +kernel
theorem dX7_draw_29 : decode cX7_draw 29 = .ok (.irem, 1) := by decide +kernel
theorem dX7_draw_30 : decode cX7_draw 30 = .ok (.ireturn, 1) := by decide +kernel
theorem dX7_lots_0 : decode cX7_lots 0 = .ok (.iload_n 1, 1) := by decide +kernel
theorem dX7_lots_1 : decode cX7_lots 1 = .ok (.iconst 1, 1) := by decide +kernel
theorem dX7_lots_2 : decode cX7_lots 2 = .ok (.bipush 20, 2) := by decide +kernel
theorem dX7_lots_4 : decode cX7_lots 4 = .ok (.invokestatic 216, 3) := by decide +kernel
theorem dX7_lots_7 : decode cX7_lots 7 = .ok (.istore 4, 2) := by decide +kernel
theorem dX7_lots_9 : decode cX7_lots 9 = .ok (.iload 4, 2) := by decide +kernel
theorem dX7_lots_11 : decode cX7_lots 11 = .ok (.ifCond .ne 16, 3) := by decide +kernel
theorem dX7_lots_14 : decode cX7_lots 14 = .ok (.iload_n 3, 1) := by decide +kernel
theorem dX7_lots_15 : decode cX7_lots 15 = .ok (.iconst 0, 1) := by decide +kernel
theorem dX7_lots_16 : decode cX7_lots 16 = .ok (.iconst 1, 1) := by decide +kernel
theorem dX7_lots_17 : decode cX7_lots 17 = .ok (.invokestatic 96, 3) := by decide +kernel
theorem dX7_lots_20 : decode cX7_lots 20 = .ok (.ifCond .ne 7, 3) := by decide +kernel
theorem dX7_lots_23 : decode cX7_lots 23 = .ok (.bipush (-2), 2) := by decide +kernel
theorem dX7_lots_25 : decode cX7_lots 25 = .ok (.istore 4, 2) := by decide +kernel
theorem dX7_lots_27 : decode cX7_lots 27 = .ok (.iload 4, 2) := by decide +kernel
theorem dX7_lots_29 : decode cX7_lots 29 = .ok (.ifCond .eq 10, 3) := by decide +kernel
theorem dX7_lots_32 : decode cX7_lots 32 = .ok (.aload_n 0, 1) := by decide +kernel
theorem dX7_lots_33 : decode cX7_lots 33 = .ok (.iload 4, 2) := by decide +kernel
theorem dX7_lots_35 : decode cX7_lots 35 = .ok (.invokevirtual 213, 3) := by decide +kernel
theorem dX7_lots_38 : decode cX7_lots 38 = .ok (.ireturn, 1) := by decide +kernel
theorem dX7_lots_39 : decode cX7_lots 39 = .ok (.aload_n 0, 1) := by decide +kernel
theorem dX7_lots_40 : decode cX7_lots 40 = .ok (.iload_n 2, 1) := by decide +kernel
theorem dX7_lots_41 : decode cX7_lots 41 = .ok (.putfield 379, 3) := by decide +kernel
theorem dX7_lots_44 : decode cX7_lots 44 = .ok (.iconst 0, 1) := by decide +kernel
theorem dX7_lots_45 : decode cX7_lots 45 = .ok (.istore 5, 2) := by decide +kernel
theorem dX7_lots_47 : decode cX7_lots 47 = .ok (.iconst 0, 1) := by decide +kernel
theorem dX7_lots_48 : decode cX7_lots 48 = .ok (.istore 6, 2) := by decide +kernel
theorem dX7_lots_50 : decode cX7_lots 50 = .ok (.iload 6, 2) := by decide +kernel
theorem dX7_lots_52 : decode cX7_lots 52 = .ok (.iload_n 1, 1) := by decide +kernel
theorem dX7_lots_53 : decode cX7_lots 53 = .ok (.if_icmp .ge 68, 3) := by decide +kernel
theorem dX7_lots_56 : decode cX7_lots 56 = .ok (.aload_n 0, 1) := by decide +kernel
theorem dX7_lots_57 : decode cX7_lots 57 = .ok (.invokevirtual 341, 3) := by decide +kernel
theorem dX7_lots_60 : decode cX7_lots 60 = .ok (.iconst 0, 1) := by decide +kernel
theorem dX7_lots_61 : decode cX7_lots 61 = .ok (.istore 7, 2) := by decide +kernel
theorem dX7_lots_63 : decode cX7_lots 63 = .ok (.iload 7, 2) := by decide +kernel
theorem dX7_lots_65 : decode cX7_lots 65 = .ok (.bipush 8, 2) := by decide +kernel
theorem dX7_lots_67 : decode cX7_lots 67 = .ok (.if_icmp .ge 44, 3) := by decide +kernel
theorem dX7_lots_70 : decode cX7_lots 70 = .ok (.iload 5, 2) := by decide +kernel
theorem dX7_lots_72 : decode cX7_lots 72 = .ok (.aload_n 0, 1) := by decide +kernel
theorem dX7_lots_73 : decode cX7_lots 73 = .ok (.iconst 1, 1) := by decide +kernel
theorem dX7_lots_74 : decode cX7_lots 74 = .ok (.aload_n 0, 1) := by decide +kernel
theorem dX7_lots_75 : decode cX7_lots 75 = .ok (.sipush 255, 3) := by decide +kernel
theorem dX7_lots_78 : decode cX7_lots 78 = .ok (.invokevirtual 385, 3) := by decide +kernel
theorem dX7_lots_81 : decode cX7_lots 81 = .ok (.iadd, 1) := by decide +kernel
theorem dX7_lots_82 : decode cX7_lots 82 = .ok (.invokevirtual 350, 3) := by decide +kernel
theorem dX7_lots_85 : decode cX7_lots 85 = .ok (.iload_n 3, 1) := by decide +kernel
theorem dX7_lots_86 : decode cX7_lots 86 = .ok (.ifCond .ne 7, 3) := by decide +kernel
theorem dX7_lots_89 : decode cX7_lots 89 = .ok (.iconst 1, 1) := by decide +kernel
theorem dX7_lots_90 : decode cX7_lots 90 = .ok (.goto 4, 3) := by decide +kernel
theorem dX7_lots_93 : decode cX7_lots 93 = .ok (.iconst 2, 1) := by decide +kernel
theorem dX7_lots_94 : decode cX7_lots 94 = .ok (.if_icmp .ne 7, 3) := by decide +kernel
theorem dX7_lots_97 : decode cX7_lots 97 = .ok (.iconst 1, 1) := by decide +kernel
theorem dX7_lots_98 : decode cX7_lots 98 = .ok (.goto 4, 3) := by decide +kernel
theorem dX7_lots_101 : decode cX7_lots 101 = .ok (.iconst 0, 1) := by decide +kernel
theorem dX7_lots_102 : decode cX7_lots 102 = .ok (.iadd, 1) := by decide +kernel
theorem dX7_lots_103 : decode cX7_lots 103 = .ok (.istore 5, 2) := by decide +kernel
theorem dX7_lots_105 : decode cX7_lots 105 = .ok (.iinc 7 1, 3) := by decide +kernel
theorem dX7_lots_108 : decode cX7_lots 108 = .ok (.goto (-45), 3) := by decide +kernel
theorem dX7_lots_111 : decode cX7_lots 111 = .ok (.aload_n 0, 1) := by decide +kernel
theorem dX7_lots_112 : decode cX7_lots 112 = .ok (.invokevirtual 347, 3) := by decide +kernel
theorem dX7_lots_115 : decode cX7_lots 115 = .ok (.iinc 6 1, 3) := by decide +kernel
theorem dX7_lots_118 : decode cX7_lots 118 = .ok (.goto (-68), 3) := by decide +kernel
theorem dX7_lots_121 : decode cX7_lots 121 = .ok (.iload 5, 2) := by decide +kernel
theorem dX7_lots_123 : decode cX7_lots 123 = .ok (.ireturn, 1) := by decide +kernel
theorem dX7_notFree_0 : decode cX7_notFree 0 = .ok (.iconst 0, 1) := by decide +kernel
theorem dX7_notFree_1 : decode cX7_notFree 1 = .ok (.istore_n 1, 1) := by decide +kernel
theorem dX7_notFree_2 : decode cX7_notFree 2 = .ok (.iconst 0, 1) := by decide +kernel
theorem dX7_notFree_3 : decode cX7_notFree 3 = .ok (.istore_n 2, 1) := by decide +kernel
theorem dX7_notFree_4 : decode cX7_notFree 4 = .ok (.iload_n 2, 1) := by decide +kernel
theorem dX7_notFree_5 : decode cX7_notFree 5 = .ok (.aload_n 0, 1) := by decide +kernel
theorem dX7_notFree_6 : decode cX7_notFree 6 = .ok (.getfield 86, 3) := by decide +kernel
theorem dX7_notFree_9 : decode cX7_notFree 9 = .ok (.if_icmp .ge 27, 3) := by decide +kernel
theorem dX7_notFree_12 : decode cX7_notFree 12 = .ok (.iload_n 1, 1) := by decide +kernel
theorem dX7_notFree_13 : decode cX7_notFree 13 = .ok (.aload_n 0, 1) := by decide +kernel
theorem dX7_notFree_14 : decode cX7_notFree 14 = .ok (.iload_n 2, 1) := by decide +kernel
theorem dX7_notFree_15 : decode cX7_notFree 15 = .ok (.invokevirtual 247, 3) := by decide +kernel
theorem dX7_notFree_18 : decode cX7_notFree 18 = .ok (.ifCond .eq 7, 3) := by decide +kernel
theorem dX7_notFree_21 : decode cX7_notFree 21 = .ok (.iconst 0, 1) := by decide +kernel
theorem dX7_notFree_22 : decode cX7_notFree 22 = .ok (.goto 6, 3) := by decide +kernel
theorem dX7_notFree_25 : decode cX7_notFree 25 = .ok (.iconst 1, 1) := by decide +kernel
theorem dX7_notFree_26 : decode cX7_notFree 26 = .ok (.iload_n 2, 1) := by decide +kernel
theorem dX7_notFree_27 : decode cX7_notFree 27 = .ok (.ishl, 1) := by decide +kernel
theorem dX7_notFree_28 : decode cX7_notFree 28 = .ok (.ior, 1) := by decide +kernel
theorem dX7_notFree_29 : decode cX7_notFree 29 = .ok (.istore_n 1, 1) := by decide +kernel
theorem dX7_notFree_30 : decode cX7_notFree 30 = .ok (.iinc 2 1, 3) := by decide +kernel
theorem dX7_notFree_33 : decode cX7_notFree 33 = .ok (.goto (-29), 3) := by decide +kernel
theorem dX7_notFree_36 : decode cX7_notFree 36 = .ok (.iload_n 1, 1) := by decide +kernel
theorem dX7_notFree_37 : decode cX7_notFree 37 = .ok (.ireturn, 1) := by decide +kernel
theorem dX7_allValues_0 : decode cX7_allValues 0 = .ok (.iconst 0, 1) := by decide +kernel
theorem dX7_allValues_1 : decode cX7_allValues 1 = .ok (.istore_n 1, 1) := by decide +kernel
theorem dX7_allValues_2 : decode cX7_allValues 2 = .ok (.iconst 0, 1) := by decide +kernel
theorem dX7_allValues_3 : decode cX7_allValues 3 = .ok (.istore_n 2, 1) := by decide +kernel
theorem dX7_allValues_4 : decode cX7_allValues 4 = .ok (.iload_n 2, 1) := by decide +kernel
theorem dX7_allValues_5 : decode cX7_allValues 5 = .ok (.bipush 8, 2) := by decide +kernel
theorem dX7_allValues_7 : decode cX7_allValues 7 = .ok (.if_icmp .ge 23, 3) := by decide +kernel
theorem dX7_allValues_10 : decode cX7_allValues 10 = .ok (.iload_n 1, 1) := by decide +kernel
theorem dX7_allValues_11 : decode cX7_allValues 11 = .ok (.aload_n 0, 1) := by decide +kernel
theorem dX7_allValues_12 : decode cX7_allValues 12 = .ok (.getfield 13, 3) := by decide +kernel
theorem dX7_allValues_15 : decode cX7_allValues 15 = .ok (.aload_n 0, 1) := by decide +kernel
theorem dX7_allValues_16 : decode cX7_allValues 16 = .ok (.getfield 22, 3) := by decide +kernel
theorem dX7_allValues_19 : decode cX7_allValues 19 = .ok (.iload_n 2, 1) := by decide +kernel
theorem dX7_allValues_20 : decode cX7_allValues 20 = .ok (.iaload, 1) := by decide +kernel
theorem dX7_allValues_21 : decode cX7_allValues 21 = .ok (.iaload, 1) := by decide +kernel
theorem dX7_allValues_22 : decode cX7_allValues 22 = .ok (.iadd, 1) := by decide +kernel
theorem dX7_allValues_23 : decode cX7_allValues 23 = .ok (.istore_n 1, 1) := by decide +kernel
theorem dX7_allValues_24 : decode cX7_allValues 24 = .ok (.iinc 2 1, 3) := by decide +kernel
theorem dX7_allValues_27 : decode cX7_allValues 27 = .ok (.goto (-23), 3) := by decide +kernel
theorem dX7_allValues_30 : decode cX7_allValues 30 = .ok (.iload_n 1, 1) := by decide +kernel
theorem dX7_allValues_31 : decode cX7_allValues 31 = .ok (.ireturn, 1) := by decide +kernel
theorem dX7_count_0 : decode cX7_count 0 = .ok (.iload_n 1, 1) := by decide +kernel
theorem dX7_count_1 : decode cX7_count 1 = .ok (.bipush 11, 2) := by decide +kernel
theorem dX7_count_3 : decode cX7_count 3 = .ok (.bipush 16, 2) := by decide +kernel
theorem dX7_count_5 : decode cX7_count 5 = .ok (.invokestatic 96, 3) := by decide +kernel
theorem dX7_count_8 : decode cX7_count 8 = .ok (.ifCond .eq 13, 3) := by decide +kernel
theorem dX7_count_11 : decode cX7_count 11 = .ok (.aload_n 0, 1) := by decide +kernel
theorem dX7_count_12 : decode cX7_count 12 = .ok (.getfield 7, 3) := by decide +kernel
theorem dX7_count_15 : decode cX7_count 15 = .ok (.iload_n 1, 1) := by decide +kernel
theorem dX7_count_16 : decode cX7_count 16 = .ok (.bipush 10, 2) := by decide +kernel
theorem dX7_count_18 : decode cX7_count 18 = .ok (.isub, 1) := by decide +kernel
theorem dX7_count_19 : decode cX7_count 19 = .ok (.iaload, 1) := by decide +kernel
theorem dX7_count_20 : decode cX7_count 20 = .ok (.ireturn, 1) := by decide +kernel
theorem dX7_count_21 : decode cX7_count 21 = .ok (.iload_n 1, 1) := by decide +kernel
theorem dX7_count_22 : decode cX7_count 22 = .ok (.tableswitch 86 0 7 #[46, 51, 56, 61, 66, 71, 76, 81], 46) := by decide +kernel
theorem dX7_count_68 : decode cX7_count 68 = .ok (.aload_n 0, 1) := by decide +kernel
theorem dX7_count_69 : decode cX7_count 69 = .ok (.getfield 100, 3) := by decide +kernel
theorem dX7_count_72 : decode cX7_count 72 = .ok (.ireturn, 1) := by decide +kernel
theorem dX7_count_73 : decode cX7_count 73 = .ok (.aload_n 0, 1) := by decide +kernel
theorem dX7_count_74 : decode cX7_count 74 = .ok (.getfield 86, 3) := by decide +kernel
theorem dX7_count_77 : decode cX7_count 77 = .ok (.ireturn, 1) := by decide +kernel
theorem dX7_count_78 : decode cX7_count 78 = .ok (.aload_n 0, 1) := by decide +kernel
theorem dX7_count_79 : decode cX7_count 79 = .ok (.getfield 176, 3) := by decide +kernel
theorem dX7_count_82 : decode cX7_count 82 = .ok (.ireturn, 1) := by decide +kernel
theorem dX7_count_83 : decode cX7_count 83 = .ok (.aload_n 0, 1) := by decide +kernel
theorem dX7_count_84 : decode cX7_count 84 = .ok (.getfield 90, 3) := by decide +kernel
theorem dX7_count_87 : decode cX7_count 87 = .ok (.ireturn, 1) := by decide +kernel
theorem dX7_count_88 : decode cX7_count 88 = .ok (.aload_n 0, 1) := by decide +kernel
theorem dX7_count_89 : decode cX7_count 89 = .ok (.invokevirtual 388, 3) := by decide +kernel
theorem dX7_count_92 : decode cX7_count 92 = .ok (.ireturn, 1) := by decide +kernel
theorem dX7_count_93 : decode cX7_count 93 = .ok (.aload_n 0, 1) := by decide +kernel
theorem dX7_count_94 : decode cX7_count 94 = .ok (.invokevirtual 391, 3) := by decide +kernel
theorem dX7_count_97 : decode cX7_count 97 = .ok (.ireturn, 1) := by decide +kernel
theorem dX7_count_98 : decode cX7_count 98 = .ok (.aload_n 0, 1) := by decide +kernel
theorem dX7_count_99 : decode cX7_count 99 = .ok (.getfield 367, 3) := by decide +kernel
theorem dX7_count_102 : decode cX7_count 102 = .ok (.ireturn, 1) := by decide +kernel
theorem dX7_count_103 : decode cX7_count 103 = .ok (.aload_n 0, 1) := by decide +kernel
theorem dX7_count_104 : decode cX7_count 104 = .ok (.getfield 220, 3) := by decide +kernel
theorem dX7_count_107 : decode cX7_count 107 = .ok (.ireturn, 1) := by decide +kernel
theorem dX7_count_108 : decode cX7_count 108 = .ok (.bipush (-9), 2) := by decide +kernel
theorem dX7_count_110 : decode cX7_count 110 = .ok (.ireturn, 1) := by decide +kernel
theorem dJ6_bitCount_0f7a4_0 : decode cJ6_bitCount_0f7a4 0 = .ok (.iload_n 0, 1) := by decide +kernel
theorem dJ6_bitCount_0f7a4_1 : decode cJ6_bitCount_0f7a4 1 = .ok (.iload_n 0, 1) := by decide +kernel
theorem dJ6_bitCount_0f7a4_2 : decode cJ6_bitCount_0f7a4 2 = .ok (.iconst 1, 1) := by decide +kernel
theorem dJ6_bitCount_0f7a4_3 : decode cJ6_bitCount_0f7a4 3 = .ok (.iushr, 1) := by decide +kernel
theorem dJ6_bitCount_0f7a4_4 : decode cJ6_bitCount_0f7a4 4 = .ok (.ldc_w 265, 3) := by decide +kernel
theorem dJ6_bitCount_0f7a4_7 : decode cJ6_bitCount_0f7a4 7 = .ok (.iand, 1) := by decide +kernel
theorem dJ6_bitCount_0f7a4_8 : decode cJ6_bitCount_0f7a4 8 = .ok (.isub, 1) := by decide +kernel
theorem dJ6_bitCount_0f7a4_9 : decode cJ6_bitCount_0f7a4 9 = .ok (.istore_n 0, 1) := by decide +kernel
theorem dJ6_bitCount_0f7a4_10 : decode cJ6_bitCount_0f7a4 10 = .ok (.iload_n 0, 1) := by decide +kernel
theorem dJ6_bitCount_0f7a4_11 : decode cJ6_bitCount_0f7a4 11 = .ok (.ldc_w 266, 3) := by decide +kernel
theorem dJ6_bitCount_0f7a4_14 : decode cJ6_bitCount_0f7a4 14 = .ok (.iand, 1) := by decide +kernel
theorem dJ6_bitCount_0f7a4_15 : decode cJ6_bitCount_0f7a4 15 = .ok (.iload_n 0, 1) := by decide +kernel
theorem dJ6_bitCount_0f7a4_16 : decode cJ6_bitCount_0f7a4 16 = .ok (.iconst 2, 1) := by decide +kernel
theorem dJ6_bitCount_0f7a4_17 : decode cJ6_bitCount_0f7a4 17 = .ok (.iushr, 1) := by decide +kernel
theorem dJ6_bitCount_0f7a4_18 : decode cJ6_bitCount_0f7a4 18 = .ok (.ldc_w 266, 3) := by decide +kernel
theorem dJ6_bitCount_0f7a4_21 : decode cJ6_bitCount_0f7a4 21 = .ok (.iand, 1) := by decide +kernel
theorem dJ6_bitCount_0f7a4_22 : decode cJ6_bitCount_0f7a4 22 = .ok (.iadd, 1) := by decide +kernel
theorem dJ6_bitCount_0f7a4_23 : decode cJ6_bitCount_0f7a4 23 = .ok (.istore_n 0, 1) := by decide +kernel
theorem dJ6_bitCount_0f7a4_24 : decode cJ6_bitCount_0f7a4 24 = .ok (.iload_n 0, 1) := by decide +kernel
theorem dJ6_bitCount_0f7a4_25 : decode cJ6_bitCount_0f7a4 25 = .ok (.iload_n 0, 1) := by decide +kernel
theorem dJ6_bitCount_0f7a4_26 : decode cJ6_bitCount_0f7a4 26 = .ok (.iconst 4, 1) := by decide +kernel
theorem dJ6_bitCount_0f7a4_27 : decode cJ6_bitCount_0f7a4 27 = .ok (.iushr, 1) := by decide +kernel
theorem dJ6_bitCount_0f7a4_28 : decode cJ6_bitCount_0f7a4 28 = .ok (.iadd, 1) := by decide +kernel
theorem dJ6_bitCount_0f7a4_29 : decode cJ6_bitCount_0f7a4 29 = .ok (.ldc_w 267, 3) := by decide +kernel
theorem dJ6_bitCount_0f7a4_32 : decode cJ6_bitCount_0f7a4 32 = .ok (.iand, 1) := by decide +kernel
theorem dJ6_bitCount_0f7a4_33 : decode cJ6_bitCount_0f7a4 33 = .ok (.istore_n 0, 1) := by decide +kernel
theorem dJ6_bitCount_0f7a4_34 : decode cJ6_bitCount_0f7a4 34 = .ok (.iload_n 0, 1) := by decide +kernel
theorem dJ6_bitCount_0f7a4_35 : decode cJ6_bitCount_0f7a4 35 = .ok (.iload_n 0, 1) := by decide +kernel
theorem dJ6_bitCount_0f7a4_36 : decode cJ6_bitCount_0f7a4 36 = .ok (.bipush 8, 2) := by decide +kernel
theorem dJ6_bitCount_0f7a4_38 : decode cJ6_bitCount_0f7a4 38 = .ok (.iushr, 1) := by decide +kernel
theorem dJ6_bitCount_0f7a4_39 : decode cJ6_bitCount_0f7a4 39 = .ok (.iadd, 1) := by decide +kernel
theorem dJ6_bitCount_0f7a4_40 : decode cJ6_bitCount_0f7a4 40 = .ok (.istore_n 0, 1) := by decide +kernel
theorem dJ6_bitCount_0f7a4_41 : decode cJ6_bitCount_0f7a4 41 = .ok (.iload_n 0, 1) := by decide +kernel
theorem dJ6_bitCount_0f7a4_42 : decode cJ6_bitCount_0f7a4 42 = .ok (.iload_n 0, 1) := by decide +kernel
theorem dJ6_bitCount_0f7a4_43 : decode cJ6_bitCount_0f7a4 43 = .ok (.bipush 16, 2) := by decide +kernel
theorem dJ6_bitCount_0f7a4_45 : decode cJ6_bitCount_0f7a4 45 = .ok (.iushr, 1) := by decide +kernel
theorem dJ6_bitCount_0f7a4_46 : decode cJ6_bitCount_0f7a4 46 = .ok (.iadd, 1) := by decide +kernel
theorem dJ6_bitCount_0f7a4_47 : decode cJ6_bitCount_0f7a4 47 = .ok (.istore_n 0, 1) := by decide +kernel
theorem dJ6_bitCount_0f7a4_48 : decode cJ6_bitCount_0f7a4 48 = .ok (.iload_n 0, 1) := by decide +kernel
theorem dJ6_bitCount_0f7a4_49 : decode cJ6_bitCount_0f7a4 49 = .ok (.bipush 63, 2) := by decide +kernel
theorem dJ6_bitCount_0f7a4_51 : decode cJ6_bitCount_0f7a4 51 = .ok (.iand, 1) := by decide +kernel
theorem dJ6_bitCount_0f7a4_52 : decode cJ6_bitCount_0f7a4 52 = .ok (.ireturn, 1) := by decide +kernel
theorem dJ9_floorDiv_7cf53_0 : decode cJ9_floorDiv_7cf53 0 = .ok (.iload_n 0, 1) := by decide +kernel
theorem dJ9_floorDiv_7cf53_1 : decode cJ9_floorDiv_7cf53 1 = .ok (.iload_n 1, 1) := by decide +kernel
theorem dJ9_floorDiv_7cf53_2 : decode cJ9_floorDiv_7cf53 2 = .ok (.idiv, 1) := by decide +kernel
theorem dJ9_floorDiv_7cf53_3 : decode cJ9_floorDiv_7cf53 3 = .ok (.istore_n 2, 1) := by decide +kernel
theorem dJ9_floorDiv_7cf53_4 : decode cJ9_floorDiv_7cf53 4 = .ok (.iload_n 0, 1) := by decide +kernel
theorem dJ9_floorDiv_7cf53_5 : decode cJ9_floorDiv_7cf53 5 = .ok (.iload_n 1, 1) := by decide +kernel
theorem dJ9_floorDiv_7cf53_6 : decode cJ9_floorDiv_7cf53 6 = .ok (.ixor, 1) := by decide +kernel
theorem dJ9_floorDiv_7cf53_7 : decode cJ9_floorDiv_7cf53 7 = .ok (.ifCond .ge 14, 3) := by decide +kernel
theorem dJ9_floorDiv_7cf53_10 : decode cJ9_floorDiv_7cf53 10 = .ok (.iload_n 2, 1) := by decide +kernel
theorem dJ9_floorDiv_7cf53_11 : decode cJ9_floorDiv_7cf53 11 = .ok (.iload_n 1, 1) := by decide +kernel
theorem dJ9_floorDiv_7cf53_12 : decode cJ9_floorDiv_7cf53 12 = .ok (.imul, 1) := by decide +kernel
theorem dJ9_floorDiv_7cf53_13 : decode cJ9_floorDiv_7cf53 13 = .ok (.iload_n 0, 1) := by decide +kernel
theorem dJ9_floorDiv_7cf53_14 : decode cJ9_floorDiv_7cf53 14 = .ok (.if_icmp .eq 7, 3) := by decide +kernel
theorem dJ9_floorDiv_7cf53_17 : decode cJ9_floorDiv_7cf53 17 = .ok (.iload_n 2, 1) := by decide +kernel
theorem dJ9_floorDiv_7cf53_18 : decode cJ9_floorDiv_7cf53 18 = .ok (.iconst 1, 1) := by decide +kernel
theorem dJ9_floorDiv_7cf53_19 : decode cJ9_floorDiv_7cf53 19 = .ok (.isub, 1) := by decide +kernel
theorem dJ9_floorDiv_7cf53_20 : decode cJ9_floorDiv_7cf53 20 = .ok (.ireturn, 1) := by decide +kernel
theorem dJ9_floorDiv_7cf53_21 : decode cJ9_floorDiv_7cf53 21 = .ok (.iload_n 2, 1) := by decide +kernel
theorem dJ9_floorDiv_7cf53_22 : decode cJ9_floorDiv_7cf53 22 = .ok (.ireturn, 1) := by decide +kernel
theorem dJ9_abs_067f4_0 : decode cJ9_abs_067f4 0 = .ok (.lload_n 0, 1) := by decide +kernel
theorem dJ9_abs_067f4_1 : decode cJ9_abs_067f4 1 = .ok (.lconst 0, 1) := by decide +kernel
theorem dJ9_abs_067f4_2 : decode cJ9_abs_067f4 2 = .ok (.lcmp, 1) := by decide +kernel
theorem dJ9_abs_067f4_3 : decode cJ9_abs_067f4 3 = .ok (.ifCond .ge 8, 3) := by decide +kernel
theorem dJ9_abs_067f4_6 : decode cJ9_abs_067f4 6 = .ok (.lload_n 0, 1) := by decide +kernel
theorem dJ9_abs_067f4_7 : decode cJ9_abs_067f4 7 = .ok (.lneg, 1) := by decide +kernel
theorem dJ9_abs_067f4_8 : decode cJ9_abs_067f4 8 = .ok (.goto 4, 3) := by decide +kernel
theorem dJ9_abs_067f4_11 : decode cJ9_abs_067f4 11 = .ok (.lload_n 0, 1) := by decide +kernel
theorem dJ9_abs_067f4_12 : decode cJ9_abs_067f4 12 = .ok (.lreturn, 1) := by decide +kernel
theorem dJ9_max_7cf53_0 : decode cJ9_max_7cf53 0 = .ok (.iload_n 0, 1) := by decide +kernel
theorem dJ9_max_7cf53_1 : decode cJ9_max_7cf53 1 = .ok (.iload_n 1, 1) := by decide +kernel
theorem dJ9_max_7cf53_2 : decode cJ9_max_7cf53 2 = .ok (.if_icmp .lt 7, 3) := by decide +kernel
theorem dJ9_max_7cf53_5 : decode cJ9_max_7cf53 5 = .ok (.iload_n 0, 1) := by decide +kernel
theorem dJ9_max_7cf53_6 : decode cJ9_max_7cf53 6 = .ok (.goto 4, 3) := by decide +kernel
theorem dJ9_max_7cf53_9 : decode cJ9_max_7cf53 9 = .ok (.iload_n 1, 1) := by decide +kernel
theorem dJ9_max_7cf53_10 : decode cJ9_max_7cf53 10 = .ok (.ireturn, 1) := by decide +kernel
theorem dJ9_min_7cf53_0 : decode cJ9_min_7cf53 0 = .ok (.iload_n 0, 1) := by decide +kernel
theorem dJ9_min_7cf53_1 : decode cJ9_min_7cf53 1 = .ok (.iload_n 1, 1) := by decide +kernel
theorem dJ9_min_7cf53_2 : decode cJ9_min_7cf53 2 = .ok (.if_icmp .gt 7, 3) := by decide +kernel
theorem dJ9_min_7cf53_5 : decode cJ9_min_7cf53 5 = .ok (.iload_n 0, 1) := by decide +kernel
theorem dJ9_min_7cf53_6 : decode cJ9_min_7cf53 6 = .ok (.goto 4, 3) := by decide +kernel
theorem dJ9_min_7cf53_9 : decode cJ9_min_7cf53 9 = .ok (.iload_n 1, 1) := by decide +kernel
theorem dJ9_min_7cf53_10 : decode cJ9_min_7cf53 10 = .ok (.ireturn, 1) := by decide +kernel
theorem dL_law_0 : decode cL_law 0 = .ok (.new 7, 3) := by decide +kernel
theorem dL_law_3 : decode cL_law 3 = .ok (.dup, 1) := by decide +kernel
theorem dL_law_4 : decode cL_law 4 = .ok (.invokespecial 9, 3) := by decide +kernel
theorem dL_law_7 : decode cL_law 7 = .ok (.astore_n 1, 1) := by decide +kernel
theorem dL_law_8 : decode cL_law 8 = .ok (.new 10, 3) := by decide +kernel
theorem dL_law_11 : decode cL_law 11 = .ok (.dup, 1) := by decide +kernel
theorem dL_law_12 : decode cL_law 12 = .ok (.invokespecial 12, 3) := by decide +kernel
theorem dL_law_15 : decode cL_law 15 = .ok (.astore_n 2, 1) := by decide +kernel
theorem dL_law_16 : decode cL_law 16 = .ok (.iconst 0, 1) := by decide +kernel
theorem dL_law_17 : decode cL_law 17 = .ok (.istore_n 3, 1) := by decide +kernel
theorem dL_law_18 : decode cL_law 18 = .ok (.iload_n 3, 1) := by decide +kernel
theorem dL_law_19 : decode cL_law 19 = .ok (.aload_n 0, 1) := by decide +kernel
theorem dL_law_20 : decode cL_law 20 = .ok (.arraylength, 1) := by decide +kernel
theorem dL_law_21 : decode cL_law 21 = .ok (.iconst 5, 1) := by decide +kernel
theorem dL_law_22 : decode cL_law 22 = .ok (.isub, 1) := by decide +kernel
theorem dL_law_23 : decode cL_law 23 = .ok (.if_icmp .gt 1059, 3) := by decide +kernel
theorem dL_law_26 : decode cL_law 26 = .ok (.aload_n 0, 1) := by decide +kernel
theorem dL_law_27 : decode cL_law 27 = .ok (.iload_n 3, 1) := by decide +kernel
theorem dL_law_28 : decode cL_law 28 = .ok (.iaload, 1) := by decide +kernel
theorem dL_law_29 : decode cL_law 29 = .ok (.bipush 31, 2) := by decide +kernel
theorem dL_law_31 : decode cL_law 31 = .ok (.iand, 1) := by decide +kernel
theorem dL_law_32 : decode cL_law 32 = .ok (.tableswitch 1044 0 31 #[144, 167, 180, 213, 246, 279, 312, 355, 378, 401, 444, 487, 510, 543, 567, 611, 624, 657, 670, 723, 776, 809, 832, 856, 880, 903, 926, 939, 952, 995, 1008, 1021], 144) := by decide +kernel
theorem dL_law_176 : decode cL_law 176 = .ok (.aload_n 1, 1) := by decide +kernel
theorem dL_law_177 : decode cL_law 177 = .ok (.aload_n 0, 1) := by decide +kernel
theorem dL_law_178 : decode cL_law 178 = .ok (.iload_n 3, 1) := by decide +kernel
theorem dL_law_179 : decode cL_law 179 = .ok (.iconst 1, 1) := by decide +kernel
theorem dL_law_180 : decode cL_law 180 = .ok (.iadd, 1) := by decide +kernel
theorem dL_law_181 : decode cL_law 181 = .ok (.iaload, 1) := by decide +kernel
theorem dL_law_182 : decode cL_law 182 = .ok (.invokevirtual 13, 3) := by decide +kernel
theorem dL_law_185 : decode cL_law 185 = .ok (.aload_n 2, 1) := by decide +kernel
theorem dL_law_186 : decode cL_law 186 = .ok (.aload_n 0, 1) := by decide +kernel
theorem dL_law_187 : decode cL_law 187 = .ok (.iload_n 3, 1) := by decide +kernel
theorem dL_law_188 : decode cL_law 188 = .ok (.iconst 1, 1) := by decide +kernel
theorem dL_law_189 : decode cL_law 189 = .ok (.iadd, 1) := by decide +kernel
theorem dL_law_190 : decode cL_law 190 = .ok (.iaload, 1) := by decide +kernel
theorem dL_law_191 : decode cL_law 191 = .ok (.invokevirtual 17, 3) := by decide +kernel
theorem dL_law_194 : decode cL_law 194 = .ok (.if_icmp .eq 882, 3) := by decide +kernel
theorem dL_law_197 : decode cL_law 197 = .ok (.iconst 0, 1) := by decide +kernel
theorem dL_law_198 : decode cL_law 198 = .ok (.ireturn, 1) := by decide +kernel
theorem dL_law_199 : decode cL_law 199 = .ok (.aload_n 1, 1) := by decide +kernel
theorem dL_law_200 : decode cL_law 200 = .ok (.invokevirtual 18, 3) := by decide +kernel
theorem dL_law_203 : decode cL_law 203 = .ok (.aload_n 2, 1) := by decide +kernel
theorem dL_law_204 : decode cL_law 204 = .ok (.invokevirtual 22, 3) := by decide +kernel
theorem dL_law_207 : decode cL_law 207 = .ok (.if_icmp .eq 869, 3) := by decide +kernel
theorem dL_law_210 : decode cL_law 210 = .ok (.iconst 0, 1) := by decide +kernel
theorem dL_law_211 : decode cL_law 211 = .ok (.ireturn, 1) := by decide +kernel
theorem dL_law_212 : decode cL_law 212 = .ok (.aload_n 1, 1) := by decide +kernel
theorem dL_law_213 : decode cL_law 213 = .ok (.aload_n 0, 1) := by decide +kernel
theorem dL_law_214 : decode cL_law 214 = .ok (.iload_n 3, 1) := by decide +kernel
theorem dL_law_215 : decode cL_law 215 = .ok (.iconst 1, 1) := by decide +kernel
theorem dL_law_216 : decode cL_law 216 = .ok (.iadd, 1) := by decide +kernel
theorem dL_law_217 : decode cL_law 217 = .ok (.iaload, 1) := by decide +kernel
theorem dL_law_218 : decode cL_law 218 = .ok (.aload_n 0, 1) := by decide +kernel
theorem dL_law_219 : decode cL_law 219 = .ok (.iload_n 3, 1) := by decide +kernel
theorem dL_law_220 : decode cL_law 220 = .ok (.iconst 2, 1) := by decide +kernel
theorem dL_law_221 : decode cL_law 221 = .ok (.iadd, 1) := by decide +kernel
theorem dL_law_222 : decode cL_law 222 = .ok (.iaload, 1) := by decide +kernel
theorem dL_law_223 : decode cL_law 223 = .ok (.invokevirtual 23, 3) := by decide +kernel
theorem dL_law_226 : decode cL_law 226 = .ok (.aload_n 2, 1) := by decide +kernel
theorem dL_law_227 : decode cL_law 227 = .ok (.aload_n 0, 1) := by decide +kernel
theorem dL_law_228 : decode cL_law 228 = .ok (.iload_n 3, 1) := by decide +kernel
theorem dL_law_229 : decode cL_law 229 = .ok (.iconst 1, 1) := by decide +kernel
theorem dL_law_230 : decode cL_law 230 = .ok (.iadd, 1) := by decide +kernel
theorem dL_law_231 : decode cL_law 231 = .ok (.iaload, 1) := by decide +kernel
theorem dL_law_232 : decode cL_law 232 = .ok (.aload_n 0, 1) := by decide +kernel
theorem dL_law_233 : decode cL_law 233 = .ok (.iload_n 3, 1) := by decide +kernel
theorem dL_law_234 : decode cL_law 234 = .ok (.iconst 2, 1) := by decide +kernel
theorem dL_law_235 : decode cL_law 235 = .ok (.iadd, 1) := by decide +kernel
theorem dL_law_236 : decode cL_law 236 = .ok (.iaload, 1) := by decide +kernel
theorem dL_law_237 : decode cL_law 237 = .ok (.invokevirtual 27, 3) := by decide +kernel
theorem dL_law_240 : decode cL_law 240 = .ok (.if_icmp .eq 836, 3) := by decide +kernel
theorem dL_law_243 : decode cL_law 243 = .ok (.iconst 0, 1) := by decide +kernel
theorem dL_law_244 : decode cL_law 244 = .ok (.ireturn, 1) := by decide +kernel
theorem dL_law_245 : decode cL_law 245 = .ok (.aload_n 1, 1) := by decide +kernel
theorem dL_law_246 : decode cL_law 246 = .ok (.aload_n 0, 1) := by decide +kernel
theorem dL_law_247 : decode cL_law 247 = .ok (.iload_n 3, 1) := by decide +kernel
theorem dL_law_248 : decode cL_law 248 = .ok (.iconst 1, 1) := by decide +kernel
theorem dL_law_249 : decode cL_law 249 = .ok (.iadd, 1) := by decide +kernel
theorem dL_law_250 : decode cL_law 250 = .ok (.iaload, 1) := by decide +kernel
theorem dL_law_251 : decode cL_law 251 = .ok (.aload_n 0, 1) := by decide +kernel
theorem dL_law_252 : decode cL_law 252 = .ok (.iload_n 3, 1) := by decide +kernel
theorem dL_law_253 : decode cL_law 253 = .ok (.iconst 2, 1) := by decide +kernel
theorem dL_law_254 : decode cL_law 254 = .ok (.iadd, 1) := by decide +kernel
theorem dL_law_255 : decode cL_law 255 = .ok (.iaload, 1) := by decide +kernel
theorem dL_law_256 : decode cL_law 256 = .ok (.invokevirtual 28, 3) := by decide +kernel
theorem dL_law_259 : decode cL_law 259 = .ok (.aload_n 2, 1) := by decide +kernel
theorem dL_law_260 : decode cL_law 260 = .ok (.aload_n 0, 1) := by decide +kernel
theorem dL_law_261 : decode cL_law 261 = .ok (.iload_n 3, 1) := by decide +kernel
theorem dL_law_262 : decode cL_law 262 = .ok (.iconst 1, 1) := by decide +kernel
theorem dL_law_263 : decode cL_law 263 = .ok (.iadd, 1) := by decide +kernel
theorem dL_law_264 : decode cL_law 264 = .ok (.iaload, 1) := by decide +kernel
theorem dL_law_265 : decode cL_law 265 = .ok (.aload_n 0, 1) := by decide +kernel
theorem dL_law_266 : decode cL_law 266 = .ok (.iload_n 3, 1) := by decide +kernel
theorem dL_law_267 : decode cL_law 267 = .ok (.iconst 2, 1) := by decide +kernel
theorem dL_law_268 : decode cL_law 268 = .ok (.iadd, 1) := by decide +kernel
theorem dL_law_269 : decode cL_law 269 = .ok (.iaload, 1) := by decide +kernel
theorem dL_law_270 : decode cL_law 270 = .ok (.invokevirtual 31, 3) := by decide +kernel
theorem dL_law_273 : decode cL_law 273 = .ok (.if_icmp .eq 803, 3) := by decide +kernel
theorem dL_law_276 : decode cL_law 276 = .ok (.iconst 0, 1) := by decide +kernel
theorem dL_law_277 : decode cL_law 277 = .ok (.ireturn, 1) := by decide +kernel
theorem dL_law_278 : decode cL_law 278 = .ok (.aload_n 1, 1) := by decide +kernel
theorem dL_law_279 : decode cL_law 279 = .ok (.aload_n 0, 1) := by decide +kernel
theorem dL_law_280 : decode cL_law 280 = .ok (.iload_n 3, 1) := by decide +kernel
theorem dL_law_281 : decode cL_law 281 = .ok (.iconst 1, 1) := by decide +kernel
theorem dL_law_282 : decode cL_law 282 = .ok (.iadd, 1) := by decide +kernel
theorem dL_law_283 : decode cL_law 283 = .ok (.iaload, 1) := by decide +kernel
theorem dL_law_284 : decode cL_law 284 = .ok (.aload_n 0, 1) := by decide +kernel
theorem dL_law_285 : decode cL_law 285 = .ok (.iload_n 3, 1) := by decide +kernel
theorem dL_law_286 : decode cL_law 286 = .ok (.iconst 2, 1) := by decide +kernel
theorem dL_law_287 : decode cL_law 287 = .ok (.iadd, 1) := by decide +kernel
theorem dL_law_288 : decode cL_law 288 = .ok (.iaload, 1) := by decide +kernel
theorem dL_law_289 : decode cL_law 289 = .ok (.invokevirtual 32, 3) := by decide +kernel
theorem dL_law_292 : decode cL_law 292 = .ok (.aload_n 2, 1) := by decide +kernel
theorem dL_law_293 : decode cL_law 293 = .ok (.aload_n 0, 1) := by decide +kernel
theorem dL_law_294 : decode cL_law 294 = .ok (.iload_n 3, 1) := by decide +kernel
theorem dL_law_295 : decode cL_law 295 = .ok (.iconst 1, 1) := by decide +kernel
theorem dL_law_296 : decode cL_law 296 = .ok (.iadd, 1) := by decide +kernel
theorem dL_law_297 : decode cL_law 297 = .ok (.iaload, 1) := by decide +kernel
theorem dL_law_298 : decode cL_law 298 = .ok (.aload_n 0, 1) := by decide +kernel
theorem dL_law_299 : decode cL_law 299 = .ok (.iload_n 3, 1) := by decide +kernel
theorem dL_law_300 : decode cL_law 300 = .ok (.iconst 2, 1) := by decide +kernel
theorem dL_law_301 : decode cL_law 301 = .ok (.iadd, 1) := by decide +kernel
theorem dL_law_302 : decode cL_law 302 = .ok (.iaload, 1) := by decide +kernel
theorem dL_law_303 : decode cL_law 303 = .ok (.invokevirtual 35, 3) := by decide +kernel
theorem dL_law_306 : decode cL_law 306 = .ok (.if_icmp .eq 770, 3) := by decide +kernel
theorem dL_law_309 : decode cL_law 309 = .ok (.iconst 0, 1) := by decide +kernel
theorem dL_law_310 : decode cL_law 310 = .ok (.ireturn, 1) := by decide +kernel
theorem dL_law_311 : decode cL_law 311 = .ok (.aload_n 1, 1) := by decide +kernel
theorem dL_law_312 : decode cL_law 312 = .ok (.aload_n 0, 1) := by decide +kernel
theorem dL_law_313 : decode cL_law 313 = .ok (.iload_n 3, 1) := by decide +kernel
theorem dL_law_314 : decode cL_law 314 = .ok (.iconst 1, 1) := by decide +kernel
theorem dL_law_315 : decode cL_law 315 = .ok (.iadd, 1) := by decide +kernel
theorem dL_law_316 : decode cL_law 316 = .ok (.iaload, 1) := by decide +kernel
theorem dL_law_317 : decode cL_law 317 = .ok (.aload_n 0, 1) := by decide +kernel
theorem dL_law_318 : decode cL_law 318 = .ok (.iload_n 3, 1) := by decide +kernel
theorem dL_law_319 : decode cL_law 319 = .ok (.iconst 2, 1) := by decide +kernel
theorem dL_law_320 : decode cL_law 320 = .ok (.iadd, 1) := by decide +kernel
theorem dL_law_321 : decode cL_law 321 = .ok (.iaload, 1) := by decide +kernel
theorem dL_law_322 : decode cL_law 322 = .ok (.invokevirtual 36, 3) := by decide +kernel
theorem dL_law_325 : decode cL_law 325 = .ok (.aload_n 2, 1) := by decide +kernel
theorem dL_law_326 : decode cL_law 326 = .ok (.aload_n 0, 1) := by decide +kernel
theorem dL_law_327 : decode cL_law 327 = .ok (.iload_n 3, 1) := by decide +kernel
theorem dL_law_328 : decode cL_law 328 = .ok (.iconst 1, 1) := by decide +kernel
theorem dL_law_329 : decode cL_law 329 = .ok (.iadd, 1) := by decide +kernel
theorem dL_law_330 : decode cL_law 330 = .ok (.iaload, 1) := by decide +kernel
theorem dL_law_331 : decode cL_law 331 = .ok (.aload_n 0, 1) := by decide +kernel
theorem dL_law_332 : decode cL_law 332 = .ok (.iload_n 3, 1) := by decide +kernel
theorem dL_law_333 : decode cL_law 333 = .ok (.iconst 2, 1) := by decide +kernel
theorem dL_law_334 : decode cL_law 334 = .ok (.iadd, 1) := by decide +kernel
theorem dL_law_335 : decode cL_law 335 = .ok (.iaload, 1) := by decide +kernel
theorem dL_law_336 : decode cL_law 336 = .ok (.invokevirtual 39, 3) := by decide +kernel
theorem dL_law_339 : decode cL_law 339 = .ok (.if_icmp .eq 737, 3) := by decide +kernel
theorem dL_law_342 : decode cL_law 342 = .ok (.iconst 0, 1) := by decide +kernel
theorem dL_law_343 : decode cL_law 343 = .ok (.ireturn, 1) := by decide +kernel
theorem dL_law_344 : decode cL_law 344 = .ok (.aload_n 1, 1) := by decide +kernel
theorem dL_law_345 : decode cL_law 345 = .ok (.aload_n 0, 1) := by decide +kernel
theorem dL_law_346 : decode cL_law 346 = .ok (.iload_n 3, 1) := by decide +kernel
theorem dL_law_347 : decode cL_law 347 = .ok (.iconst 1, 1) := by decide +kernel
theorem dL_law_348 : decode cL_law 348 = .ok (.iadd, 1) := by decide +kernel
theorem dL_law_349 : decode cL_law 349 = .ok (.iaload, 1) := by decide +kernel
theorem dL_law_350 : decode cL_law 350 = .ok (.aload_n 0, 1) := by decide +kernel
theorem dL_law_351 : decode cL_law 351 = .ok (.iload_n 3, 1) := by decide +kernel
theorem dL_law_352 : decode cL_law 352 = .ok (.iconst 2, 1) := by decide +kernel
theorem dL_law_353 : decode cL_law 353 = .ok (.iadd, 1) := by decide +kernel
theorem dL_law_354 : decode cL_law 354 = .ok (.iaload, 1) := by decide +kernel
theorem dL_law_355 : decode cL_law 355 = .ok (.aload_n 0, 1) := by decide +kernel
theorem dL_law_356 : decode cL_law 356 = .ok (.iload_n 3, 1) := by decide +kernel
theorem dL_law_357 : decode cL_law 357 = .ok (.iconst 3, 1) := by decide +kernel
theorem dL_law_358 : decode cL_law 358 = .ok (.iadd, 1) := by decide +kernel
theorem dL_law_359 : decode cL_law 359 = .ok (.iaload, 1) := by decide +kernel
theorem dL_law_360 : decode cL_law 360 = .ok (.invokevirtual 40, 3) := by decide +kernel
theorem dL_law_363 : decode cL_law 363 = .ok (.aload_n 2, 1) := by decide +kernel
theorem dL_law_364 : decode cL_law 364 = .ok (.aload_n 0, 1) := by decide +kernel
theorem dL_law_365 : decode cL_law 365 = .ok (.iload_n 3, 1) := by decide +kernel
theorem dL_law_366 : decode cL_law 366 = .ok (.iconst 1, 1) := by decide +kernel
theorem dL_law_367 : decode cL_law 367 = .ok (.iadd, 1) := by decide +kernel
theorem dL_law_368 : decode cL_law 368 = .ok (.iaload, 1) := by decide +kernel
theorem dL_law_369 : decode cL_law 369 = .ok (.aload_n 0, 1) := by decide +kernel
theorem dL_law_370 : decode cL_law 370 = .ok (.iload_n 3, 1) := by decide +kernel
theorem dL_law_371 : decode cL_law 371 = .ok (.iconst 2, 1) := by decide +kernel
theorem dL_law_372 : decode cL_law 372 = .ok (.iadd, 1) := by decide +kernel
theorem dL_law_373 : decode cL_law 373 = .ok (.iaload, 1) := by decide +kernel
theorem dL_law_374 : decode cL_law 374 = .ok (.aload_n 0, 1) := by decide +kernel
theorem dL_law_375 : decode cL_law 375 = .ok (.iload_n 3, 1) := by decide +kernel
theorem dL_law_376 : decode cL_law 376 = .ok (.iconst 3, 1) := by decide +kernel
theorem dL_law_377 : decode cL_law 377 = .ok (.iadd, 1) := by decide +kernel
theorem dL_law_378 : decode cL_law 378 = .ok (.iaload, 1) := by decide +kernel
theorem dL_law_379 : decode cL_law 379 = .ok (.invokevirtual 44, 3) := by decide +kernel
theorem dL_law_382 : decode cL_law 382 = .ok (.if_icmp .eq 694, 3) := by decide +kernel
theorem dL_law_385 : decode cL_law 385 = .ok (.iconst 0, 1) := by decide +kernel
theorem dL_law_386 : decode cL_law 386 = .ok (.ireturn, 1) := by decide +kernel
theorem dL_law_387 : decode cL_law 387 = .ok (.aload_n 1, 1) := by decide +kernel
theorem dL_law_388 : decode cL_law 388 = .ok (.aload_n 0, 1) := by decide +kernel
theorem dL_law_389 : decode cL_law 389 = .ok (.iload_n 3, 1) := by decide +kernel
theorem dL_law_390 : decode cL_law 390 = .ok (.iconst 1, 1) := by decide +kernel
theorem dL_law_391 : decode cL_law 391 = .ok (.iadd, 1) := by decide +kernel
theorem dL_law_392 : decode cL_law 392 = .ok (.iaload, 1) := by decide +kernel
theorem dL_law_393 : decode cL_law 393 = .ok (.invokevirtual 45, 3) := by decide +kernel
theorem dL_law_396 : decode cL_law 396 = .ok (.aload_n 2, 1) := by decide +kernel
theorem dL_law_397 : decode cL_law 397 = .ok (.aload_n 0, 1) := by decide +kernel
theorem dL_law_398 : decode cL_law 398 = .ok (.iload_n 3, 1) := by decide +kernel
theorem dL_law_399 : decode cL_law 399 = .ok (.iconst 1, 1) := by decide +kernel
theorem dL_law_400 : decode cL_law 400 = .ok (.iadd, 1) := by decide +kernel
theorem dL_law_401 : decode cL_law 401 = .ok (.iaload, 1) := by decide +kernel
theorem dL_law_402 : decode cL_law 402 = .ok (.invokevirtual 48, 3) := by decide +kernel
theorem dL_law_405 : decode cL_law 405 = .ok (.if_icmp .eq 671, 3) := by decide +kernel
theorem dL_law_408 : decode cL_law 408 = .ok (.iconst 0, 1) := by decide +kernel
theorem dL_law_409 : decode cL_law 409 = .ok (.ireturn, 1) := by decide +kernel
theorem dL_law_410 : decode cL_law 410 = .ok (.aload_n 1, 1) := by decide +kernel
theorem dL_law_411 : decode cL_law 411 = .ok (.aload_n 0, 1) := by decide +kernel
theorem dL_law_412 : decode cL_law 412 = .ok (.iload_n 3, 1) := by decide +kernel
theorem dL_law_413 : decode cL_law 413 = .ok (.iconst 1, 1) := by decide +kernel
theorem dL_law_414 : decode cL_law 414 = .ok (.iadd, 1) := by decide +kernel
theorem dL_law_415 : decode cL_law 415 = .ok (.iaload, 1) := by decide +kernel
theorem dL_law_416 : decode cL_law 416 = .ok (.invokevirtual 49, 3) := by decide +kernel
theorem dL_law_419 : decode cL_law 419 = .ok (.aload_n 2, 1) := by decide +kernel
theorem dL_law_420 : decode cL_law 420 = .ok (.aload_n 0, 1) := by decide +kernel
theorem dL_law_421 : decode cL_law 421 = .ok (.iload_n 3, 1) := by decide +kernel
theorem dL_law_422 : decode cL_law 422 = .ok (.iconst 1, 1) := by decide +kernel
theorem dL_law_423 : decode cL_law 423 = .ok (.iadd, 1) := by decide +kernel
theorem dL_law_424 : decode cL_law 424 = .ok (.iaload, 1) := by decide +kernel
theorem dL_law_425 : decode cL_law 425 = .ok (.invokevirtual 52, 3) := by decide +kernel
theorem dL_law_428 : decode cL_law 428 = .ok (.if_icmp .eq 648, 3) := by decide +kernel
theorem dL_law_431 : decode cL_law 431 = .ok (.iconst 0, 1) := by decide +kernel
theorem dL_law_432 : decode cL_law 432 = .ok (.ireturn, 1) := by decide +kernel
theorem dL_law_433 : decode cL_law 433 = .ok (.aload_n 1, 1) := by decide +kernel
theorem dL_law_434 : decode cL_law 434 = .ok (.aload_n 0, 1) := by decide +kernel
theorem dL_law_435 : decode cL_law 435 = .ok (.iload_n 3, 1) := by decide +kernel
theorem dL_law_436 : decode cL_law 436 = .ok (.iconst 1, 1) := by decide +kernel
theorem dL_law_437 : decode cL_law 437 = .ok (.iadd, 1) := by decide +kernel
theorem dL_law_438 : decode cL_law 438 = .ok (.iaload, 1) := by decide +kernel
theorem dL_law_439 : decode cL_law 439 = .ok (.aload_n 0, 1) := by decide +kernel
theorem dL_law_440 : decode cL_law 440 = .ok (.iload_n 3, 1) := by decide +kernel
theorem dL_law_441 : decode cL_law 441 = .ok (.iconst 2, 1) := by decide +kernel
theorem dL_law_442 : decode cL_law 442 = .ok (.iadd, 1) := by decide +kernel
theorem dL_law_443 : decode cL_law 443 = .ok (.iaload, 1) := by decide +kernel
theorem dL_law_444 : decode cL_law 444 = .ok (.aload_n 0, 1) := by decide +kernel
theorem dL_law_445 : decode cL_law 445 = .ok (.iload_n 3, 1) := by decide +kernel
theorem dL_law_446 : decode cL_law 446 = .ok (.iconst 3, 1) := by decide +kernel
theorem dL_law_447 : decode cL_law 447 = .ok (.iadd, 1) := by decide +kernel
theorem dL_law_448 : decode cL_law 448 = .ok (.iaload, 1) := by decide +kernel
theorem dL_law_449 : decode cL_law 449 = .ok (.invokevirtual 53, 3) := by decide +kernel
theorem dL_law_452 : decode cL_law 452 = .ok (.aload_n 2, 1) := by decide +kernel
theorem dL_law_453 : decode cL_law 453 = .ok (.aload_n 0, 1) := by decide +kernel
theorem dL_law_454 : decode cL_law 454 = .ok (.iload_n 3, 1) := by decide +kernel
theorem dL_law_455 : decode cL_law 455 = .ok (.iconst 1, 1) := by decide +kernel
theorem dL_law_456 : decode cL_law 456 = .ok (.iadd, 1) := by decide +kernel
theorem dL_law_457 : decode cL_law 457 = .ok (.iaload, 1) := by decide +kernel
theorem dL_law_458 : decode cL_law 458 = .ok (.aload_n 0, 1) := by decide +kernel
theorem dL_law_459 : decode cL_law 459 = .ok (.iload_n 3, 1) := by decide +kernel
theorem dL_law_460 : decode cL_law 460 = .ok (.iconst 2, 1) := by decide +kernel
theorem dL_law_461 : decode cL_law 461 = .ok (.iadd, 1) := by decide +kernel
theorem dL_law_462 : decode cL_law 462 = .ok (.iaload, 1) := by decide +kernel
theorem dL_law_463 : decode cL_law 463 = .ok (.aload_n 0, 1) := by decide +kernel
theorem dL_law_464 : decode cL_law 464 = .ok (.iload_n 3, 1) := by decide +kernel
theorem dL_law_465 : decode cL_law 465 = .ok (.iconst 3, 1) := by decide +kernel
theorem dL_law_466 : decode cL_law 466 = .ok (.iadd, 1) := by decide +kernel
theorem dL_law_467 : decode cL_law 467 = .ok (.iaload, 1) := by decide +kernel
theorem dL_law_468 : decode cL_law 468 = .ok (.invokevirtual 56, 3) := by decide +kernel
theorem dL_law_471 : decode cL_law 471 = .ok (.if_icmp .eq 605, 3) := by decide +kernel
theorem dL_law_474 : decode cL_law 474 = .ok (.iconst 0, 1) := by decide +kernel
theorem dL_law_475 : decode cL_law 475 = .ok (.ireturn, 1) := by decide +kernel
theorem dL_law_476 : decode cL_law 476 = .ok (.aload_n 1, 1) := by decide +kernel
theorem dL_law_477 : decode cL_law 477 = .ok (.aload_n 0, 1) := by decide +kernel
theorem dL_law_478 : decode cL_law 478 = .ok (.iload_n 3, 1) := by decide +kernel
theorem dL_law_479 : decode cL_law 479 = .ok (.iconst 1, 1) := by decide +kernel
theorem dL_law_480 : decode cL_law 480 = .ok (.iadd, 1) := by decide +kernel
theorem dL_law_481 : decode cL_law 481 = .ok (.iaload, 1) := by decide +kernel
theorem dL_law_482 : decode cL_law 482 = .ok (.aload_n 0, 1) := by decide +kernel
theorem dL_law_483 : decode cL_law 483 = .ok (.iload_n 3, 1) := by decide +kernel
theorem dL_law_484 : decode cL_law 484 = .ok (.iconst 2, 1) := by decide +kernel
theorem dL_law_485 : decode cL_law 485 = .ok (.iadd, 1) := by decide +kernel
theorem dL_law_486 : decode cL_law 486 = .ok (.iaload, 1) := by decide +kernel
theorem dL_law_487 : decode cL_law 487 = .ok (.aload_n 0, 1) := by decide +kernel
theorem dL_law_488 : decode cL_law 488 = .ok (.iload_n 3, 1) := by decide +kernel
theorem dL_law_489 : decode cL_law 489 = .ok (.iconst 3, 1) := by decide +kernel
theorem dL_law_490 : decode cL_law 490 = .ok (.iadd, 1) := by decide +kernel
theorem dL_law_491 : decode cL_law 491 = .ok (.iaload, 1) := by decide +kernel
theorem dL_law_492 : decode cL_law 492 = .ok (.invokevirtual 57, 3) := by decide +kernel
theorem dL_law_495 : decode cL_law 495 = .ok (.aload_n 2, 1) := by decide +kernel
theorem dL_law_496 : decode cL_law 496 = .ok (.aload_n 0, 1) := by decide +kernel
theorem dL_law_497 : decode cL_law 497 = .ok (.iload_n 3, 1) := by decide +kernel
theorem dL_law_498 : decode cL_law 498 = .ok (.iconst 1, 1) := by decide +kernel
theorem dL_law_499 : decode cL_law 499 = .ok (.iadd, 1) := by decide +kernel
theorem dL_law_500 : decode cL_law 500 = .ok (.iaload, 1) := by decide +kernel
theorem dL_law_501 : decode cL_law 501 = .ok (.aload_n 0, 1) := by decide +kernel
theorem dL_law_502 : decode cL_law 502 = .ok (.iload_n 3, 1) := by decide +kernel
theorem dL_law_503 : decode cL_law 503 = .ok (.iconst 2, 1) := by decide +kernel
theorem dL_law_504 : decode cL_law 504 = .ok (.iadd, 1) := by decide +kernel
theorem dL_law_505 : decode cL_law 505 = .ok (.iaload, 1) := by decide +kernel
theorem dL_law_506 : decode cL_law 506 = .ok (.aload_n 0, 1) := by decide +kernel
theorem dL_law_507 : decode cL_law 507 = .ok (.iload_n 3, 1) := by decide +kernel
theorem dL_law_508 : decode cL_law 508 = .ok (.iconst 3, 1) := by decide +kernel
theorem dL_law_509 : decode cL_law 509 = .ok (.iadd, 1) := by decide +kernel
theorem dL_law_510 : decode cL_law 510 = .ok (.iaload, 1) := by decide +kernel
theorem dL_law_511 : decode cL_law 511 = .ok (.invokevirtual 60, 3) := by decide +kernel
theorem dL_law_514 : decode cL_law 514 = .ok (.if_icmp .eq 562, 3) := by decide +kernel
theorem dL_law_517 : decode cL_law 517 = .ok (.iconst 0, 1) := by decide +kernel
theorem dL_law_518 : decode cL_law 518 = .ok (.ireturn, 1) := by decide +kernel
theorem dL_law_519 : decode cL_law 519 = .ok (.aload_n 1, 1) := by decide +kernel
theorem dL_law_520 : decode cL_law 520 = .ok (.aload_n 0, 1) := by decide +kernel
theorem dL_law_521 : decode cL_law 521 = .ok (.iload_n 3, 1) := by decide +kernel
theorem dL_law_522 : decode cL_law 522 = .ok (.iconst 1, 1) := by decide +kernel
theorem dL_law_523 : decode cL_law 523 = .ok (.iadd, 1) := by decide +kernel
theorem dL_law_524 : decode cL_law 524 = .ok (.iaload, 1) := by decide +kernel
theorem dL_law_525 : decode cL_law 525 = .ok (.invokevirtual 61, 3) := by decide +kernel
theorem dL_law_528 : decode cL_law 528 = .ok (.aload_n 2, 1) := by decide +kernel
theorem dL_law_529 : decode cL_law 529 = .ok (.aload_n 0, 1) := by decide +kernel
theorem dL_law_530 : decode cL_law 530 = .ok (.iload_n 3, 1) := by decide +kernel
theorem dL_law_531 : decode cL_law 531 = .ok (.iconst 1, 1) := by decide +kernel
theorem dL_law_532 : decode cL_law 532 = .ok (.iadd, 1) := by decide +kernel
theorem dL_law_533 : decode cL_law 533 = .ok (.iaload, 1) := by decide +kernel
theorem dL_law_534 : decode cL_law 534 = .ok (.invokevirtual 64, 3) := by decide +kernel
theorem dL_law_537 : decode cL_law 537 = .ok (.if_icmp .eq 539, 3) := by decide +kernel
theorem dL_law_540 : decode cL_law 540 = .ok (.iconst 0, 1) := by decide +kernel
theorem dL_law_541 : decode cL_law 541 = .ok (.ireturn, 1) := by decide +kernel
theorem dL_law_542 : decode cL_law 542 = .ok (.aload_n 1, 1) := by decide +kernel
theorem dL_law_543 : decode cL_law 543 = .ok (.aload_n 0, 1) := by decide +kernel
theorem dL_law_544 : decode cL_law 544 = .ok (.iload_n 3, 1) := by decide +kernel
theorem dL_law_545 : decode cL_law 545 = .ok (.iconst 1, 1) := by decide +kernel
theorem dL_law_546 : decode cL_law 546 = .ok (.iadd, 1) := by decide +kernel
theorem dL_law_547 : decode cL_law 547 = .ok (.iaload, 1) := by decide +kernel
theorem dL_law_548 : decode cL_law 548 = .ok (.aload_n 0, 1) := by decide +kernel
theorem dL_law_549 : decode cL_law 549 = .ok (.iload_n 3, 1) := by decide +kernel
theorem dL_law_550 : decode cL_law 550 = .ok (.iconst 2, 1) := by decide +kernel
theorem dL_law_551 : decode cL_law 551 = .ok (.iadd, 1) := by decide +kernel
theorem dL_law_552 : decode cL_law 552 = .ok (.iaload, 1) := by decide +kernel
theorem dL_law_553 : decode cL_law 553 = .ok (.invokevirtual 65, 3) := by decide +kernel
theorem dL_law_556 : decode cL_law 556 = .ok (.aload_n 2, 1) := by decide +kernel
theorem dL_law_557 : decode cL_law 557 = .ok (.aload_n 0, 1) := by decide +kernel
theorem dL_law_558 : decode cL_law 558 = .ok (.iload_n 3, 1) := by decide +kernel
theorem dL_law_559 : decode cL_law 559 = .ok (.iconst 1, 1) := by decide +kernel
theorem dL_law_560 : decode cL_law 560 = .ok (.iadd, 1) := by decide +kernel
theorem dL_law_561 : decode cL_law 561 = .ok (.iaload, 1) := by decide +kernel
theorem dL_law_562 : decode cL_law 562 = .ok (.aload_n 0, 1) := by decide +kernel
theorem dL_law_563 : decode cL_law 563 = .ok (.iload_n 3, 1) := by decide +kernel
theorem dL_law_564 : decode cL_law 564 = .ok (.iconst 2, 1) := by decide +kernel
theorem dL_law_565 : decode cL_law 565 = .ok (.iadd, 1) := by decide +kernel
theorem dL_law_566 : decode cL_law 566 = .ok (.iaload, 1) := by decide +kernel
theorem dL_law_567 : decode cL_law 567 = .ok (.invokevirtual 68, 3) := by decide +kernel
theorem dL_law_570 : decode cL_law 570 = .ok (.if_icmp .eq 506, 3) := by decide +kernel
theorem dL_law_573 : decode cL_law 573 = .ok (.iconst 0, 1) := by decide +kernel
theorem dL_law_574 : decode cL_law 574 = .ok (.ireturn, 1) := by decide +kernel
theorem dL_law_575 : decode cL_law 575 = .ok (.aload_n 1, 1) := by decide +kernel
theorem dL_law_576 : decode cL_law 576 = .ok (.aload_n 0, 1) := by decide +kernel
theorem dL_law_577 : decode cL_law 577 = .ok (.iload_n 3, 1) := by decide +kernel
theorem dL_law_578 : decode cL_law 578 = .ok (.iconst 1, 1) := by decide +kernel
theorem dL_law_579 : decode cL_law 579 = .ok (.iadd, 1) := by decide +kernel
theorem dL_law_580 : decode cL_law 580 = .ok (.iaload, 1) := by decide +kernel
theorem dL_law_581 : decode cL_law 581 = .ok (.invokevirtual 69, 3) := by decide +kernel
theorem dL_law_584 : decode cL_law 584 = .ok (.aload_n 2, 1) := by decide +kernel
theorem dL_law_585 : decode cL_law 585 = .ok (.aload_n 0, 1) := by decide +kernel
theorem dL_law_586 : decode cL_law 586 = .ok (.iload_n 3, 1) := by decide +kernel
theorem dL_law_587 : decode cL_law 587 = .ok (.iconst 1, 1) := by decide +kernel
theorem dL_law_588 : decode cL_law 588 = .ok (.iadd, 1) := by decide +kernel
theorem dL_law_589 : decode cL_law 589 = .ok (.iaload, 1) := by decide +kernel
theorem dL_law_590 : decode cL_law 590 = .ok (.invokevirtual 73, 3) := by decide +kernel
theorem dL_law_593 : decode cL_law 593 = .ok (.lcmp, 1) := by decide +kernel
theorem dL_law_594 : decode cL_law 594 = .ok (.ifCond .eq 482, 3) := by decide +kernel
theorem dL_law_597 : decode cL_law 597 = .ok (.iconst 0, 1) := by decide +kernel
theorem dL_law_598 : decode cL_law 598 = .ok (.ireturn, 1) := by decide +kernel
theorem dL_law_599 : decode cL_law 599 = .ok (.aload_n 1, 1) := by decide +kernel
theorem dL_law_600 : decode cL_law 600 = .ok (.aload_n 0, 1) := by decide +kernel
theorem dL_law_601 : decode cL_law 601 = .ok (.iload_n 3, 1) := by decide +kernel
theorem dL_law_602 : decode cL_law 602 = .ok (.iconst 1, 1) := by decide +kernel
theorem dL_law_603 : decode cL_law 603 = .ok (.iadd, 1) := by decide +kernel
theorem dL_law_604 : decode cL_law 604 = .ok (.iaload, 1) := by decide +kernel
theorem dL_law_605 : decode cL_law 605 = .ok (.aload_n 0, 1) := by decide +kernel
theorem dL_law_606 : decode cL_law 606 = .ok (.iload_n 3, 1) := by decide +kernel
theorem dL_law_607 : decode cL_law 607 = .ok (.iconst 2, 1) := by decide +kernel
theorem dL_law_608 : decode cL_law 608 = .ok (.iadd, 1) := by decide +kernel
theorem dL_law_609 : decode cL_law 609 = .ok (.iaload, 1) := by decide +kernel
theorem dL_law_610 : decode cL_law 610 = .ok (.aload_n 0, 1) := by decide +kernel
theorem dL_law_611 : decode cL_law 611 = .ok (.iload_n 3, 1) := by decide +kernel
theorem dL_law_612 : decode cL_law 612 = .ok (.iconst 3, 1) := by decide +kernel
theorem dL_law_613 : decode cL_law 613 = .ok (.iadd, 1) := by decide +kernel
theorem dL_law_614 : decode cL_law 614 = .ok (.iaload, 1) := by decide +kernel
theorem dL_law_615 : decode cL_law 615 = .ok (.invokevirtual 74, 3) := by decide +kernel
theorem dL_law_618 : decode cL_law 618 = .ok (.aload_n 2, 1) := by decide +kernel
theorem dL_law_619 : decode cL_law 619 = .ok (.aload_n 0, 1) := by decide +kernel
theorem dL_law_620 : decode cL_law 620 = .ok (.iload_n 3, 1) := by decide +kernel
theorem dL_law_621 : decode cL_law 621 = .ok (.iconst 1, 1) := by decide +kernel
theorem dL_law_622 : decode cL_law 622 = .ok (.iadd, 1) := by decide +kernel
theorem dL_law_623 : decode cL_law 623 = .ok (.iaload, 1) := by decide +kernel
theorem dL_law_624 : decode cL_law 624 = .ok (.aload_n 0, 1) := by decide +kernel
theorem dL_law_625 : decode cL_law 625 = .ok (.iload_n 3, 1) := by decide +kernel
theorem dL_law_626 : decode cL_law 626 = .ok (.iconst 2, 1) := by decide +kernel
theorem dL_law_627 : decode cL_law 627 = .ok (.iadd, 1) := by decide +kernel
theorem dL_law_628 : decode cL_law 628 = .ok (.iaload, 1) := by decide +kernel
theorem dL_law_629 : decode cL_law 629 = .ok (.aload_n 0, 1) := by decide +kernel
theorem dL_law_630 : decode cL_law 630 = .ok (.iload_n 3, 1) := by decide +kernel
theorem dL_law_631 : decode cL_law 631 = .ok (.iconst 3, 1) := by decide +kernel
theorem dL_law_632 : decode cL_law 632 = .ok (.iadd, 1) := by decide +kernel
theorem dL_law_633 : decode cL_law 633 = .ok (.iaload, 1) := by decide +kernel
theorem dL_law_634 : decode cL_law 634 = .ok (.invokevirtual 78, 3) := by decide +kernel
theorem dL_law_637 : decode cL_law 637 = .ok (.lcmp, 1) := by decide +kernel
theorem dL_law_638 : decode cL_law 638 = .ok (.ifCond .eq 438, 3) := by decide +kernel
theorem dL_law_641 : decode cL_law 641 = .ok (.iconst 0, 1) := by decide +kernel
theorem dL_law_642 : decode cL_law 642 = .ok (.ireturn, 1) := by decide +kernel
theorem dL_law_643 : decode cL_law 643 = .ok (.aload_n 1, 1) := by decide +kernel
theorem dL_law_644 : decode cL_law 644 = .ok (.invokevirtual 79, 3) := by decide +kernel
theorem dL_law_647 : decode cL_law 647 = .ok (.aload_n 2, 1) := by decide +kernel
theorem dL_law_648 : decode cL_law 648 = .ok (.invokevirtual 82, 3) := by decide +kernel
theorem dL_law_651 : decode cL_law 651 = .ok (.if_icmp .eq 425, 3) := by decide +kernel
theorem dL_law_654 : decode cL_law 654 = .ok (.iconst 0, 1) := by decide +kernel
theorem dL_law_655 : decode cL_law 655 = .ok (.ireturn, 1) := by decide +kernel
theorem dL_law_656 : decode cL_law 656 = .ok (.aload_n 1, 1) := by decide +kernel
theorem dL_law_657 : decode cL_law 657 = .ok (.aload_n 0, 1) := by decide +kernel
theorem dL_law_658 : decode cL_law 658 = .ok (.iload_n 3, 1) := by decide +kernel
theorem dL_law_659 : decode cL_law 659 = .ok (.iconst 1, 1) := by decide +kernel
theorem dL_law_660 : decode cL_law 660 = .ok (.iadd, 1) := by decide +kernel
theorem dL_law_661 : decode cL_law 661 = .ok (.iaload, 1) := by decide +kernel
theorem dL_law_662 : decode cL_law 662 = .ok (.aload_n 0, 1) := by decide +kernel
theorem dL_law_663 : decode cL_law 663 = .ok (.iload_n 3, 1) := by decide +kernel
theorem dL_law_664 : decode cL_law 664 = .ok (.iconst 2, 1) := by decide +kernel
theorem dL_law_665 : decode cL_law 665 = .ok (.iadd, 1) := by decide +kernel
theorem dL_law_666 : decode cL_law 666 = .ok (.iaload, 1) := by decide +kernel
theorem dL_law_667 : decode cL_law 667 = .ok (.invokevirtual 83, 3) := by decide +kernel
theorem dL_law_670 : decode cL_law 670 = .ok (.aload_n 2, 1) := by decide +kernel
theorem dL_law_671 : decode cL_law 671 = .ok (.aload_n 0, 1) := by decide +kernel
theorem dL_law_672 : decode cL_law 672 = .ok (.iload_n 3, 1) := by decide +kernel
theorem dL_law_673 : decode cL_law 673 = .ok (.iconst 1, 1) := by decide +kernel
theorem dL_law_674 : decode cL_law 674 = .ok (.iadd, 1) := by decide +kernel
theorem dL_law_675 : decode cL_law 675 = .ok (.iaload, 1) := by decide +kernel
theorem dL_law_676 : decode cL_law 676 = .ok (.aload_n 0, 1) := by decide +kernel
theorem dL_law_677 : decode cL_law 677 = .ok (.iload_n 3, 1) := by decide +kernel
theorem dL_law_678 : decode cL_law 678 = .ok (.iconst 2, 1) := by decide +kernel
theorem dL_law_679 : decode cL_law 679 = .ok (.iadd, 1) := by decide +kernel
theorem dL_law_680 : decode cL_law 680 = .ok (.iaload, 1) := by decide +kernel
theorem dL_law_681 : decode cL_law 681 = .ok (.invokevirtual 86, 3) := by decide +kernel
theorem dL_law_684 : decode cL_law 684 = .ok (.if_icmp .eq 392, 3) := by decide +kernel
theorem dL_law_687 : decode cL_law 687 = .ok (.iconst 0, 1) := by decide +kernel
theorem dL_law_688 : decode cL_law 688 = .ok (.ireturn, 1) := by decide +kernel
theorem dL_law_689 : decode cL_law 689 = .ok (.aload_n 1, 1) := by decide +kernel
theorem dL_law_690 : decode cL_law 690 = .ok (.invokevirtual 87, 3) := by decide +kernel
theorem dL_law_693 : decode cL_law 693 = .ok (.aload_n 2, 1) := by decide +kernel
theorem dL_law_694 : decode cL_law 694 = .ok (.invokevirtual 90, 3) := by decide +kernel
theorem dL_law_697 : decode cL_law 697 = .ok (.if_icmp .eq 379, 3) := by decide +kernel
theorem dL_law_700 : decode cL_law 700 = .ok (.iconst 0, 1) := by decide +kernel
theorem dL_law_701 : decode cL_law 701 = .ok (.ireturn, 1) := by decide +kernel
theorem dL_law_702 : decode cL_law 702 = .ok (.aload_n 1, 1) := by decide +kernel
theorem dL_law_703 : decode cL_law 703 = .ok (.aload_n 0, 1) := by decide +kernel
theorem dL_law_704 : decode cL_law 704 = .ok (.iload_n 3, 1) := by decide +kernel
theorem dL_law_705 : decode cL_law 705 = .ok (.iconst 1, 1) := by decide +kernel
theorem dL_law_706 : decode cL_law 706 = .ok (.iadd, 1) := by decide +kernel
theorem dL_law_707 : decode cL_law 707 = .ok (.iaload, 1) := by decide +kernel
theorem dL_law_708 : decode cL_law 708 = .ok (.aload_n 0, 1) := by decide +kernel
theorem dL_law_709 : decode cL_law 709 = .ok (.iload_n 3, 1) := by decide +kernel
theorem dL_law_710 : decode cL_law 710 = .ok (.iconst 2, 1) := by decide +kernel
theorem dL_law_711 : decode cL_law 711 = .ok (.iadd, 1) := by decide +kernel
theorem dL_law_712 : decode cL_law 712 = .ok (.iaload, 1) := by decide +kernel
theorem dL_law_713 : decode cL_law 713 = .ok (.aload_n 0, 1) := by decide +kernel
theorem dL_law_714 : decode cL_law 714 = .ok (.iload_n 3, 1) := by decide +kernel
theorem dL_law_715 : decode cL_law 715 = .ok (.iconst 3, 1) := by decide +kernel
theorem dL_law_716 : decode cL_law 716 = .ok (.iadd, 1) := by decide +kernel
theorem dL_law_717 : decode cL_law 717 = .ok (.iaload, 1) := by decide +kernel
theorem dL_law_718 : decode cL_law 718 = .ok (.aload_n 0, 1) := by decide +kernel
theorem dL_law_719 : decode cL_law 719 = .ok (.iload_n 3, 1) := by decide +kernel
theorem dL_law_720 : decode cL_law 720 = .ok (.iconst 4, 1) := by decide +kernel
theorem dL_law_721 : decode cL_law 721 = .ok (.iadd, 1) := by decide +kernel
theorem dL_law_722 : decode cL_law 722 = .ok (.iaload, 1) := by decide +kernel
theorem dL_law_723 : decode cL_law 723 = .ok (.invokevirtual 91, 3) := by decide +kernel
theorem dL_law_726 : decode cL_law 726 = .ok (.aload_n 2, 1) := by decide +kernel
theorem dL_law_727 : decode cL_law 727 = .ok (.aload_n 0, 1) := by decide +kernel
theorem dL_law_728 : decode cL_law 728 = .ok (.iload_n 3, 1) := by decide +kernel
theorem dL_law_729 : decode cL_law 729 = .ok (.iconst 1, 1) := by decide +kernel
theorem dL_law_730 : decode cL_law 730 = .ok (.iadd, 1) := by decide +kernel
theorem dL_law_731 : decode cL_law 731 = .ok (.iaload, 1) := by decide +kernel
theorem dL_law_732 : decode cL_law 732 = .ok (.aload_n 0, 1) := by decide +kernel
theorem dL_law_733 : decode cL_law 733 = .ok (.iload_n 3, 1) := by decide +kernel
theorem dL_law_734 : decode cL_law 734 = .ok (.iconst 2, 1) := by decide +kernel
theorem dL_law_735 : decode cL_law 735 = .ok (.iadd, 1) := by decide +kernel
theorem dL_law_736 : decode cL_law 736 = .ok (.iaload, 1) := by decide +kernel
theorem dL_law_737 : decode cL_law 737 = .ok (.aload_n 0, 1) := by decide +kernel
theorem dL_law_738 : decode cL_law 738 = .ok (.iload_n 3, 1) := by decide +kernel
theorem dL_law_739 : decode cL_law 739 = .ok (.iconst 3, 1) := by decide +kernel
theorem dL_law_740 : decode cL_law 740 = .ok (.iadd, 1) := by decide +kernel
theorem dL_law_741 : decode cL_law 741 = .ok (.iaload, 1) := by decide +kernel
theorem dL_law_742 : decode cL_law 742 = .ok (.aload_n 0, 1) := by decide +kernel
theorem dL_law_743 : decode cL_law 743 = .ok (.iload_n 3, 1) := by decide +kernel
theorem dL_law_744 : decode cL_law 744 = .ok (.iconst 4, 1) := by decide +kernel
theorem dL_law_745 : decode cL_law 745 = .ok (.iadd, 1) := by decide +kernel
theorem dL_law_746 : decode cL_law 746 = .ok (.iaload, 1) := by decide +kernel
theorem dL_law_747 : decode cL_law 747 = .ok (.invokevirtual 95, 3) := by decide +kernel
theorem dL_law_750 : decode cL_law 750 = .ok (.if_icmp .eq 326, 3) := by decide +kernel
theorem dL_law_753 : decode cL_law 753 = .ok (.iconst 0, 1) := by decide +kernel
theorem dL_law_754 : decode cL_law 754 = .ok (.ireturn, 1) := by decide +kernel
theorem dL_law_755 : decode cL_law 755 = .ok (.aload_n 1, 1) := by decide +kernel
theorem dL_law_756 : decode cL_law 756 = .ok (.aload_n 0, 1) := by decide +kernel
theorem dL_law_757 : decode cL_law 757 = .ok (.iload_n 3, 1) := by decide +kernel
theorem dL_law_758 : decode cL_law 758 = .ok (.iconst 1, 1) := by decide +kernel
theorem dL_law_759 : decode cL_law 759 = .ok (.iadd, 1) := by decide +kernel
theorem dL_law_760 : decode cL_law 760 = .ok (.iaload, 1) := by decide +kernel
theorem dL_law_761 : decode cL_law 761 = .ok (.aload_n 0, 1) := by decide +kernel
theorem dL_law_762 : decode cL_law 762 = .ok (.iload_n 3, 1) := by decide +kernel
theorem dL_law_763 : decode cL_law 763 = .ok (.iconst 2, 1) := by decide +kernel
theorem dL_law_764 : decode cL_law 764 = .ok (.iadd, 1) := by decide +kernel
theorem dL_law_765 : decode cL_law 765 = .ok (.iaload, 1) := by decide +kernel
theorem dL_law_766 : decode cL_law 766 = .ok (.aload_n 0, 1) := by decide +kernel
theorem dL_law_767 : decode cL_law 767 = .ok (.iload_n 3, 1) := by decide +kernel
theorem dL_law_768 : decode cL_law 768 = .ok (.iconst 3, 1) := by decide +kernel
theorem dL_law_769 : decode cL_law 769 = .ok (.iadd, 1) := by decide +kernel
theorem dL_law_770 : decode cL_law 770 = .ok (.iaload, 1) := by decide +kernel
theorem dL_law_771 : decode cL_law 771 = .ok (.aload_n 0, 1) := by decide +kernel
theorem dL_law_772 : decode cL_law 772 = .ok (.iload_n 3, 1) := by decide +kernel
theorem dL_law_773 : decode cL_law 773 = .ok (.iconst 4, 1) := by decide +kernel
theorem dL_law_774 : decode cL_law 774 = .ok (.iadd, 1) := by decide +kernel
theorem dL_law_775 : decode cL_law 775 = .ok (.iaload, 1) := by decide +kernel
theorem dL_law_776 : decode cL_law 776 = .ok (.invokevirtual 96, 3) := by decide +kernel
theorem dL_law_779 : decode cL_law 779 = .ok (.aload_n 2, 1) := by decide +kernel
theorem dL_law_780 : decode cL_law 780 = .ok (.aload_n 0, 1) := by decide +kernel
theorem dL_law_781 : decode cL_law 781 = .ok (.iload_n 3, 1) := by decide +kernel
theorem dL_law_782 : decode cL_law 782 = .ok (.iconst 1, 1) := by decide +kernel
theorem dL_law_783 : decode cL_law 783 = .ok (.iadd, 1) := by decide +kernel
theorem dL_law_784 : decode cL_law 784 = .ok (.iaload, 1) := by decide +kernel
theorem dL_law_785 : decode cL_law 785 = .ok (.aload_n 0, 1) := by decide +kernel
theorem dL_law_786 : decode cL_law 786 = .ok (.iload_n 3, 1) := by decide +kernel
theorem dL_law_787 : decode cL_law 787 = .ok (.iconst 2, 1) := by decide +kernel
theorem dL_law_788 : decode cL_law 788 = .ok (.iadd, 1) := by decide +kernel
theorem dL_law_789 : decode cL_law 789 = .ok (.iaload, 1) := by decide +kernel
theorem dL_law_790 : decode cL_law 790 = .ok (.aload_n 0, 1) := by decide +kernel
theorem dL_law_791 : decode cL_law 791 = .ok (.iload_n 3, 1) := by decide +kernel
theorem dL_law_792 : decode cL_law 792 = .ok (.iconst 3, 1) := by decide +kernel
theorem dL_law_793 : decode cL_law 793 = .ok (.iadd, 1) := by decide +kernel
theorem dL_law_794 : decode cL_law 794 = .ok (.iaload, 1) := by decide +kernel
theorem dL_law_795 : decode cL_law 795 = .ok (.aload_n 0, 1) := by decide +kernel
theorem dL_law_796 : decode cL_law 796 = .ok (.iload_n 3, 1) := by decide +kernel
theorem dL_law_797 : decode cL_law 797 = .ok (.iconst 4, 1) := by decide +kernel
theorem dL_law_798 : decode cL_law 798 = .ok (.iadd, 1) := by decide +kernel
theorem dL_law_799 : decode cL_law 799 = .ok (.iaload, 1) := by decide +kernel
theorem dL_law_800 : decode cL_law 800 = .ok (.invokevirtual 99, 3) := by decide +kernel
theorem dL_law_803 : decode cL_law 803 = .ok (.if_icmp .eq 273, 3) := by decide +kernel
theorem dL_law_806 : decode cL_law 806 = .ok (.iconst 0, 1) := by decide +kernel
theorem dL_law_807 : decode cL_law 807 = .ok (.ireturn, 1) := by decide +kernel
theorem dL_law_808 : decode cL_law 808 = .ok (.aload_n 1, 1) := by decide +kernel
theorem dL_law_809 : decode cL_law 809 = .ok (.aload_n 0, 1) := by decide +kernel
theorem dL_law_810 : decode cL_law 810 = .ok (.iload_n 3, 1) := by decide +kernel
theorem dL_law_811 : decode cL_law 811 = .ok (.iconst 1, 1) := by decide +kernel
theorem dL_law_812 : decode cL_law 812 = .ok (.iadd, 1) := by decide +kernel
theorem dL_law_813 : decode cL_law 813 = .ok (.iaload, 1) := by decide +kernel
theorem dL_law_814 : decode cL_law 814 = .ok (.aload_n 0, 1) := by decide +kernel
theorem dL_law_815 : decode cL_law 815 = .ok (.iload_n 3, 1) := by decide +kernel
theorem dL_law_816 : decode cL_law 816 = .ok (.iconst 2, 1) := by decide +kernel
theorem dL_law_817 : decode cL_law 817 = .ok (.iadd, 1) := by decide +kernel
theorem dL_law_818 : decode cL_law 818 = .ok (.iaload, 1) := by decide +kernel
theorem dL_law_819 : decode cL_law 819 = .ok (.invokevirtual 100, 3) := by decide +kernel
theorem dL_law_822 : decode cL_law 822 = .ok (.aload_n 2, 1) := by decide +kernel
theorem dL_law_823 : decode cL_law 823 = .ok (.aload_n 0, 1) := by decide +kernel
theorem dL_law_824 : decode cL_law 824 = .ok (.iload_n 3, 1) := by decide +kernel
theorem dL_law_825 : decode cL_law 825 = .ok (.iconst 1, 1) := by decide +kernel
theorem dL_law_826 : decode cL_law 826 = .ok (.iadd, 1) := by decide +kernel
theorem dL_law_827 : decode cL_law 827 = .ok (.iaload, 1) := by decide +kernel
theorem dL_law_828 : decode cL_law 828 = .ok (.aload_n 0, 1) := by decide +kernel
theorem dL_law_829 : decode cL_law 829 = .ok (.iload_n 3, 1) := by decide +kernel
theorem dL_law_830 : decode cL_law 830 = .ok (.iconst 2, 1) := by decide +kernel
theorem dL_law_831 : decode cL_law 831 = .ok (.iadd, 1) := by decide +kernel
theorem dL_law_832 : decode cL_law 832 = .ok (.iaload, 1) := by decide +kernel
theorem dL_law_833 : decode cL_law 833 = .ok (.invokevirtual 103, 3) := by decide +kernel
theorem dL_law_836 : decode cL_law 836 = .ok (.if_icmp .eq 240, 3) := by decide +kernel
theorem dL_law_839 : decode cL_law 839 = .ok (.iconst 0, 1) := by decide +kernel
theorem dL_law_840 : decode cL_law 840 = .ok (.ireturn, 1) := by decide +kernel
theorem dL_law_841 : decode cL_law 841 = .ok (.aload_n 1, 1) := by decide +kernel
theorem dL_law_842 : decode cL_law 842 = .ok (.aload_n 0, 1) := by decide +kernel
theorem dL_law_843 : decode cL_law 843 = .ok (.iload_n 3, 1) := by decide +kernel
theorem dL_law_844 : decode cL_law 844 = .ok (.iconst 1, 1) := by decide +kernel
theorem dL_law_845 : decode cL_law 845 = .ok (.iadd, 1) := by decide +kernel
theorem dL_law_846 : decode cL_law 846 = .ok (.iaload, 1) := by decide +kernel
theorem dL_law_847 : decode cL_law 847 = .ok (.invokevirtual 104, 3) := by decide +kernel
theorem dL_law_850 : decode cL_law 850 = .ok (.aload_n 2, 1) := by decide +kernel
theorem dL_law_851 : decode cL_law 851 = .ok (.aload_n 0, 1) := by decide +kernel
theorem dL_law_852 : decode cL_law 852 = .ok (.iload_n 3, 1) := by decide +kernel
theorem dL_law_853 : decode cL_law 853 = .ok (.iconst 1, 1) := by decide +kernel
theorem dL_law_854 : decode cL_law 854 = .ok (.iadd, 1) := by decide +kernel
theorem dL_law_855 : decode cL_law 855 = .ok (.iaload, 1) := by decide +kernel
theorem dL_law_856 : decode cL_law 856 = .ok (.invokevirtual 107, 3) := by decide +kernel
theorem dL_law_859 : decode cL_law 859 = .ok (.if_icmp .eq 217, 3) := by decide +kernel
theorem dL_law_862 : decode cL_law 862 = .ok (.iconst 0, 1) := by decide +kernel
theorem dL_law_863 : decode cL_law 863 = .ok (.ireturn, 1) := by decide +kernel
theorem dL_law_864 : decode cL_law 864 = .ok (.aload_n 1, 1) := by decide +kernel
theorem dL_law_865 : decode cL_law 865 = .ok (.aload_n 0, 1) := by decide +kernel
theorem dL_law_866 : decode cL_law 866 = .ok (.iload_n 3, 1) := by decide +kernel
theorem dL_law_867 : decode cL_law 867 = .ok (.iconst 1, 1) := by decide +kernel
theorem dL_law_868 : decode cL_law 868 = .ok (.iadd, 1) := by decide +kernel
theorem dL_law_869 : decode cL_law 869 = .ok (.iaload, 1) := by decide +kernel
theorem dL_law_870 : decode cL_law 870 = .ok (.invokevirtual 108, 3) := by decide +kernel
theorem dL_law_873 : decode cL_law 873 = .ok (.aload_n 2, 1) := by decide +kernel
theorem dL_law_874 : decode cL_law 874 = .ok (.aload_n 0, 1) := by decide +kernel
theorem dL_law_875 : decode cL_law 875 = .ok (.iload_n 3, 1) := by decide +kernel
theorem dL_law_876 : decode cL_law 876 = .ok (.iconst 1, 1) := by decide +kernel
theorem dL_law_877 : decode cL_law 877 = .ok (.iadd, 1) := by decide +kernel
theorem dL_law_878 : decode cL_law 878 = .ok (.iaload, 1) := by decide +kernel
theorem dL_law_879 : decode cL_law 879 = .ok (.invokevirtual 111, 3) := by decide +kernel
theorem dL_law_882 : decode cL_law 882 = .ok (.lcmp, 1) := by decide +kernel
theorem dL_law_883 : decode cL_law 883 = .ok (.ifCond .eq 193, 3) := by decide +kernel
theorem dL_law_886 : decode cL_law 886 = .ok (.iconst 0, 1) := by decide +kernel
theorem dL_law_887 : decode cL_law 887 = .ok (.ireturn, 1) := by decide +kernel
theorem dL_law_888 : decode cL_law 888 = .ok (.aload_n 1, 1) := by decide +kernel
theorem dL_law_889 : decode cL_law 889 = .ok (.aload_n 0, 1) := by decide +kernel
theorem dL_law_890 : decode cL_law 890 = .ok (.iload_n 3, 1) := by decide +kernel
theorem dL_law_891 : decode cL_law 891 = .ok (.iconst 1, 1) := by decide +kernel
theorem dL_law_892 : decode cL_law 892 = .ok (.iadd, 1) := by decide +kernel
theorem dL_law_893 : decode cL_law 893 = .ok (.iaload, 1) := by decide +kernel
theorem dL_law_894 : decode cL_law 894 = .ok (.invokevirtual 112, 3) := by decide +kernel
theorem dL_law_897 : decode cL_law 897 = .ok (.aload_n 2, 1) := by decide +kernel
theorem dL_law_898 : decode cL_law 898 = .ok (.aload_n 0, 1) := by decide +kernel
theorem dL_law_899 : decode cL_law 899 = .ok (.iload_n 3, 1) := by decide +kernel
theorem dL_law_900 : decode cL_law 900 = .ok (.iconst 1, 1) := by decide +kernel
theorem dL_law_901 : decode cL_law 901 = .ok (.iadd, 1) := by decide +kernel
theorem dL_law_902 : decode cL_law 902 = .ok (.iaload, 1) := by decide +kernel
theorem dL_law_903 : decode cL_law 903 = .ok (.invokevirtual 115, 3) := by decide +kernel
theorem dL_law_906 : decode cL_law 906 = .ok (.lcmp, 1) := by decide +kernel
theorem dL_law_907 : decode cL_law 907 = .ok (.ifCond .eq 169, 3) := by decide +kernel
theorem dL_law_910 : decode cL_law 910 = .ok (.iconst 0, 1) := by decide +kernel
theorem dL_law_911 : decode cL_law 911 = .ok (.ireturn, 1) := by decide +kernel
theorem dL_law_912 : decode cL_law 912 = .ok (.aload_n 1, 1) := by decide +kernel
theorem dL_law_913 : decode cL_law 913 = .ok (.aload_n 0, 1) := by decide +kernel
theorem dL_law_914 : decode cL_law 914 = .ok (.iload_n 3, 1) := by decide +kernel
theorem dL_law_915 : decode cL_law 915 = .ok (.iconst 1, 1) := by decide +kernel
theorem dL_law_916 : decode cL_law 916 = .ok (.iadd, 1) := by decide +kernel
theorem dL_law_917 : decode cL_law 917 = .ok (.iaload, 1) := by decide +kernel
theorem dL_law_918 : decode cL_law 918 = .ok (.invokevirtual 116, 3) := by decide +kernel
theorem dL_law_921 : decode cL_law 921 = .ok (.aload_n 2, 1) := by decide +kernel
theorem dL_law_922 : decode cL_law 922 = .ok (.aload_n 0, 1) := by decide +kernel
theorem dL_law_923 : decode cL_law 923 = .ok (.iload_n 3, 1) := by decide +kernel
theorem dL_law_924 : decode cL_law 924 = .ok (.iconst 1, 1) := by decide +kernel
theorem dL_law_925 : decode cL_law 925 = .ok (.iadd, 1) := by decide +kernel
theorem dL_law_926 : decode cL_law 926 = .ok (.iaload, 1) := by decide +kernel
theorem dL_law_927 : decode cL_law 927 = .ok (.invokevirtual 119, 3) := by decide +kernel
theorem dL_law_930 : decode cL_law 930 = .ok (.if_icmp .eq 146, 3) := by decide +kernel
theorem dL_law_933 : decode cL_law 933 = .ok (.iconst 0, 1) := by decide +kernel
theorem dL_law_934 : decode cL_law 934 = .ok (.ireturn, 1) := by decide +kernel
theorem dL_law_935 : decode cL_law 935 = .ok (.aload_n 1, 1) := by decide +kernel
theorem dL_law_936 : decode cL_law 936 = .ok (.aload_n 0, 1) := by decide +kernel
theorem dL_law_937 : decode cL_law 937 = .ok (.iload_n 3, 1) := by decide +kernel
theorem dL_law_938 : decode cL_law 938 = .ok (.iconst 1, 1) := by decide +kernel
theorem dL_law_939 : decode cL_law 939 = .ok (.iadd, 1) := by decide +kernel
theorem dL_law_940 : decode cL_law 940 = .ok (.iaload, 1) := by decide +kernel
theorem dL_law_941 : decode cL_law 941 = .ok (.invokevirtual 120, 3) := by decide +kernel
theorem dL_law_944 : decode cL_law 944 = .ok (.aload_n 2, 1) := by decide +kernel
theorem dL_law_945 : decode cL_law 945 = .ok (.aload_n 0, 1) := by decide +kernel
theorem dL_law_946 : decode cL_law 946 = .ok (.iload_n 3, 1) := by decide +kernel
theorem dL_law_947 : decode cL_law 947 = .ok (.iconst 1, 1) := by decide +kernel
theorem dL_law_948 : decode cL_law 948 = .ok (.iadd, 1) := by decide +kernel
theorem dL_law_949 : decode cL_law 949 = .ok (.iaload, 1) := by decide +kernel
theorem dL_law_950 : decode cL_law 950 = .ok (.invokevirtual 123, 3) := by decide +kernel
theorem dL_law_953 : decode cL_law 953 = .ok (.if_icmp .eq 123, 3) := by decide +kernel
theorem dL_law_956 : decode cL_law 956 = .ok (.iconst 0, 1) := by decide +kernel
theorem dL_law_957 : decode cL_law 957 = .ok (.ireturn, 1) := by decide +kernel
theorem dL_law_958 : decode cL_law 958 = .ok (.aload_n 1, 1) := by decide +kernel
theorem dL_law_959 : decode cL_law 959 = .ok (.invokevirtual 124, 3) := by decide +kernel
theorem dL_law_962 : decode cL_law 962 = .ok (.aload_n 2, 1) := by decide +kernel
theorem dL_law_963 : decode cL_law 963 = .ok (.invokevirtual 127, 3) := by decide +kernel
theorem dL_law_966 : decode cL_law 966 = .ok (.if_icmp .eq 110, 3) := by decide +kernel
theorem dL_law_969 : decode cL_law 969 = .ok (.iconst 0, 1) := by decide +kernel
theorem dL_law_970 : decode cL_law 970 = .ok (.ireturn, 1) := by decide +kernel
theorem dL_law_971 : decode cL_law 971 = .ok (.aload_n 1, 1) := by decide +kernel
theorem dL_law_972 : decode cL_law 972 = .ok (.invokevirtual 128, 3) := by decide +kernel
theorem dL_law_975 : decode cL_law 975 = .ok (.aload_n 2, 1) := by decide +kernel
theorem dL_law_976 : decode cL_law 976 = .ok (.invokevirtual 131, 3) := by decide +kernel
theorem dL_law_979 : decode cL_law 979 = .ok (.if_icmp .eq 97, 3) := by decide +kernel
theorem dL_law_982 : decode cL_law 982 = .ok (.iconst 0, 1) := by decide +kernel
theorem dL_law_983 : decode cL_law 983 = .ok (.ireturn, 1) := by decide +kernel
theorem dL_law_984 : decode cL_law 984 = .ok (.aload_n 1, 1) := by decide +kernel
theorem dL_law_985 : decode cL_law 985 = .ok (.aload_n 0, 1) := by decide +kernel
theorem dL_law_986 : decode cL_law 986 = .ok (.iload_n 3, 1) := by decide +kernel
theorem dL_law_987 : decode cL_law 987 = .ok (.iconst 1, 1) := by decide +kernel
theorem dL_law_988 : decode cL_law 988 = .ok (.iadd, 1) := by decide +kernel
theorem dL_law_989 : decode cL_law 989 = .ok (.iaload, 1) := by decide +kernel
theorem dL_law_990 : decode cL_law 990 = .ok (.aload_n 0, 1) := by decide +kernel
theorem dL_law_991 : decode cL_law 991 = .ok (.iload_n 3, 1) := by decide +kernel
theorem dL_law_992 : decode cL_law 992 = .ok (.iconst 2, 1) := by decide +kernel
theorem dL_law_993 : decode cL_law 993 = .ok (.iadd, 1) := by decide +kernel
theorem dL_law_994 : decode cL_law 994 = .ok (.iaload, 1) := by decide +kernel
theorem dL_law_995 : decode cL_law 995 = .ok (.aload_n 0, 1) := by decide +kernel
theorem dL_law_996 : decode cL_law 996 = .ok (.iload_n 3, 1) := by decide +kernel
theorem dL_law_997 : decode cL_law 997 = .ok (.iconst 3, 1) := by decide +kernel
theorem dL_law_998 : decode cL_law 998 = .ok (.iadd, 1) := by decide +kernel
theorem dL_law_999 : decode cL_law 999 = .ok (.iaload, 1) := by decide +kernel
theorem dL_law_1000 : decode cL_law 1000 = .ok (.invokevirtual 132, 3) := by decide +kernel
theorem dL_law_1003 : decode cL_law 1003 = .ok (.aload_n 2, 1) := by decide +kernel
theorem dL_law_1004 : decode cL_law 1004 = .ok (.aload_n 0, 1) := by decide +kernel
theorem dL_law_1005 : decode cL_law 1005 = .ok (.iload_n 3, 1) := by decide +kernel
theorem dL_law_1006 : decode cL_law 1006 = .ok (.iconst 1, 1) := by decide +kernel
theorem dL_law_1007 : decode cL_law 1007 = .ok (.iadd, 1) := by decide +kernel
theorem dL_law_1008 : decode cL_law 1008 = .ok (.iaload, 1) := by decide +kernel
theorem dL_law_1009 : decode cL_law 1009 = .ok (.aload_n 0, 1) := by decide +kernel
theorem dL_law_1010 : decode cL_law 1010 = .ok (.iload_n 3, 1) := by decide +kernel
theorem dL_law_1011 : decode cL_law 1011 = .ok (.iconst 2, 1) := by decide +kernel
theorem dL_law_1012 : decode cL_law 1012 = .ok (.iadd, 1) := by decide +kernel
theorem dL_law_1013 : decode cL_law 1013 = .ok (.iaload, 1) := by decide +kernel
theorem dL_law_1014 : decode cL_law 1014 = .ok (.aload_n 0, 1) := by decide +kernel
theorem dL_law_1015 : decode cL_law 1015 = .ok (.iload_n 3, 1) := by decide +kernel
theorem dL_law_1016 : decode cL_law 1016 = .ok (.iconst 3, 1) := by decide +kernel
theorem dL_law_1017 : decode cL_law 1017 = .ok (.iadd, 1) := by decide +kernel
theorem dL_law_1018 : decode cL_law 1018 = .ok (.iaload, 1) := by decide +kernel
theorem dL_law_1019 : decode cL_law 1019 = .ok (.invokevirtual 135, 3) := by decide +kernel
theorem dL_law_1022 : decode cL_law 1022 = .ok (.if_icmp .eq 54, 3) := by decide +kernel
theorem dL_law_1025 : decode cL_law 1025 = .ok (.iconst 0, 1) := by decide +kernel
theorem dL_law_1026 : decode cL_law 1026 = .ok (.ireturn, 1) := by decide +kernel
theorem dL_law_1027 : decode cL_law 1027 = .ok (.aload_n 1, 1) := by decide +kernel
theorem dL_law_1028 : decode cL_law 1028 = .ok (.invokevirtual 136, 3) := by decide +kernel
theorem dL_law_1031 : decode cL_law 1031 = .ok (.aload_n 2, 1) := by decide +kernel
theorem dL_law_1032 : decode cL_law 1032 = .ok (.invokevirtual 139, 3) := by decide +kernel
theorem dL_law_1035 : decode cL_law 1035 = .ok (.if_icmp .eq 41, 3) := by decide +kernel
theorem dL_law_1038 : decode cL_law 1038 = .ok (.iconst 0, 1) := by decide +kernel
theorem dL_law_1039 : decode cL_law 1039 = .ok (.ireturn, 1) := by decide +kernel
theorem dL_law_1040 : decode cL_law 1040 = .ok (.aload_n 1, 1) := by decide +kernel
theorem dL_law_1041 : decode cL_law 1041 = .ok (.invokevirtual 140, 3) := by decide +kernel
theorem dL_law_1044 : decode cL_law 1044 = .ok (.aload_n 2, 1) := by decide +kernel
theorem dL_law_1045 : decode cL_law 1045 = .ok (.invokevirtual 143, 3) := by decide +kernel
theorem dL_law_1048 : decode cL_law 1048 = .ok (.if_icmp .eq 28, 3) := by decide +kernel
theorem dL_law_1051 : decode cL_law 1051 = .ok (.iconst 0, 1) := by decide +kernel
theorem dL_law_1052 : decode cL_law 1052 = .ok (.ireturn, 1) := by decide +kernel
theorem dL_law_1053 : decode cL_law 1053 = .ok (.aload_n 1, 1) := by decide +kernel
theorem dL_law_1054 : decode cL_law 1054 = .ok (.aload_n 0, 1) := by decide +kernel
theorem dL_law_1055 : decode cL_law 1055 = .ok (.iload_n 3, 1) := by decide +kernel
theorem dL_law_1056 : decode cL_law 1056 = .ok (.iconst 1, 1) := by decide +kernel
theorem dL_law_1057 : decode cL_law 1057 = .ok (.iadd, 1) := by decide +kernel
theorem dL_law_1058 : decode cL_law 1058 = .ok (.iaload, 1) := by decide +kernel
theorem dL_law_1059 : decode cL_law 1059 = .ok (.invokevirtual 144, 3) := by decide +kernel
theorem dL_law_1062 : decode cL_law 1062 = .ok (.aload_n 2, 1) := by decide +kernel
theorem dL_law_1063 : decode cL_law 1063 = .ok (.aload_n 0, 1) := by decide +kernel
theorem dL_law_1064 : decode cL_law 1064 = .ok (.iload_n 3, 1) := by decide +kernel
theorem dL_law_1065 : decode cL_law 1065 = .ok (.iconst 1, 1) := by decide +kernel
theorem dL_law_1066 : decode cL_law 1066 = .ok (.iadd, 1) := by decide +kernel
theorem dL_law_1067 : decode cL_law 1067 = .ok (.iaload, 1) := by decide +kernel
theorem dL_law_1068 : decode cL_law 1068 = .ok (.invokevirtual 147, 3) := by decide +kernel
theorem dL_law_1071 : decode cL_law 1071 = .ok (.if_icmp .eq 5, 3) := by decide +kernel
theorem dL_law_1074 : decode cL_law 1074 = .ok (.iconst 0, 1) := by decide +kernel
theorem dL_law_1075 : decode cL_law 1075 = .ok (.ireturn, 1) := by decide +kernel
theorem dL_law_1076 : decode cL_law 1076 = .ok (.iinc 3 5, 3) := by decide +kernel
theorem dL_law_1079 : decode cL_law 1079 = .ok (.goto (-1061), 3) := by decide +kernel
theorem dL_law_1082 : decode cL_law 1082 = .ok (.iconst 1, 1) := by decide +kernel
theorem dL_law_1083 : decode cL_law 1083 = .ok (.ireturn, 1) := by decide +kernel
