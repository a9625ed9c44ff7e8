theorem dX5_takeBounds_0 : decode cX5_takeBounds 0 = .ok (.aload_n 0, 1) := by decide +kernel
theorem dX5_takeBounds_1 : decode cX5_takeBounds 1 = .ok (.iload_n 1, 1) := by decide +kernel
theorem dX5_takeBounds_2 : decode cX5_takeBounds 2 = .ok (.invokevirtual 76, 3) := by decide +kernel
theorem dX5_takeBounds_5 : decode cX5_takeBounds 5 = .ok (.ifCond .eq 23, 3) := by decide +kernel
theorem dX5_takeBounds_8 : decode cX5_takeBounds 8 = .ok (.iload_n 2, 1) := by decide +kernel
theorem dX5_takeBounds_9 : decode cX5_takeBounds 9 = .ok (.aload_n 0, 1) := by decide +kernel
theorem dX5_takeBounds_10 : decode cX5_takeBounds 10 = .ok (.getfield 15, 3) := by decide +kernel
theorem dX5_takeBounds_13 : decode cX5_takeBounds 13 = .ok (.iload_n 1, 1) := by decide +kernel
theorem dX5_takeBounds_14 : decode cX5_takeBounds 14 = .ok (.iaload, 1) := by decide +kernel
theorem dX5_takeBounds_15 : decode cX5_takeBounds 15 = .ok (.if_icmp .gt 13, 3) := by decide +kernel
theorem dX5_takeBounds_18 : decode cX5_takeBounds 18 = .ok (.iload_n 3, 1) := by decide +kernel
theorem dX5_takeBounds_19 : decode cX5_takeBounds 19 = .ok (.aload_n 0, 1) := by decide +kernel
theorem dX5_takeBounds_20 : decode cX5_takeBounds 20 = .ok (.getfield 15, 3) := by decide +kernel
theorem dX5_takeBounds_23 : decode cX5_takeBounds 23 = .ok (.iload_n 1, 1) := by decide +kernel
theorem dX5_takeBounds_24 : decode cX5_takeBounds 24 = .ok (.iaload, 1) := by decide +kernel
theorem dX5_takeBounds_25 : decode cX5_takeBounds 25 = .ok (.if_icmp .ge 5, 3) := by decide +kernel
theorem dX5_takeBounds_28 : decode cX5_takeBounds 28 = .ok (.iconst 0, 1) := by decide +kernel
theorem dX5_takeBounds_29 : decode cX5_takeBounds 29 = .ok (.ireturn, 1) := by decide +kernel
theorem dX5_takeBounds_30 : decode cX5_takeBounds 30 = .ok (.aload_n 0, 1) := by decide +kernel
theorem dX5_takeBounds_31 : decode cX5_takeBounds 31 = .ok (.getfield 18, 3) := by decide +kernel
theorem dX5_takeBounds_34 : decode cX5_takeBounds 34 = .ok (.iload_n 1, 1) := by decide +kernel
theorem dX5_takeBounds_35 : decode cX5_takeBounds 35 = .ok (.iload_n 2, 1) := by decide +kernel
theorem dX5_takeBounds_36 : decode cX5_takeBounds 36 = .ok (.iastore, 1) := by decide +kernel
theorem dX5_takeBounds_37 : decode cX5_takeBounds 37 = .ok (.aload_n 0, 1) := by decide +kernel
theorem dX5_takeBounds_38 : decode cX5_takeBounds 38 = .ok (.getfield 21, 3) := by decide +kernel
theorem dX5_takeBounds_41 : decode cX5_takeBounds 41 = .ok (.iload_n 1, 1) := by decide +kernel
theorem dX5_takeBounds_42 : decode cX5_takeBounds 42 = .ok (.iload_n 3, 1) := by decide +kernel
theorem dX5_takeBounds_43 : decode cX5_takeBounds 43 = .ok (.iastore, 1) := by decide +kernel
theorem dX5_takeBounds_44 : decode cX5_takeBounds 44 = .ok (.iconst 1, 1) := by decide +kernel
theorem dX5_takeBounds_45 : decode cX5_takeBounds 45 = .ok (.ireturn, 1) := by decide +kernel
theorem dX5_takeRule_0 : decode cX5_takeRule 0 = .ok (.iload_n 1, 1) := by decide +kernel
theorem dX5_takeRule_1 : decode cX5_takeRule 1 = .ok (.iconst 4, 1) := by decide +kernel
theorem dX5_takeRule_2 : decode cX5_takeRule 2 = .ok (.invokestatic 72, 3) := by decide +kernel
theorem dX5_takeRule_5 : decode cX5_takeRule 5 = .ok (.ifCond .ne 5, 3) := by decide +kernel
theorem dX5_takeRule_8 : decode cX5_takeRule 8 = .ok (.iconst 0, 1) := by decide +kernel
theorem dX5_takeRule_9 : decode cX5_takeRule 9 = .ok (.ireturn, 1) := by decide +kernel
theorem dX5_takeRule_10 : decode cX5_takeRule 10 = .ok (.aload_n 0, 1) := by decide +kernel
theorem dX5_takeRule_11 : decode cX5_takeRule 11 = .ok (.iload_n 1, 1) := by decide +kernel
theorem dX5_takeRule_12 : decode cX5_takeRule 12 = .ok (.putfield 62, 3) := by decide +kernel
theorem dX5_takeRule_15 : decode cX5_takeRule 15 = .ok (.iconst 1, 1) := by decide +kernel
theorem dX5_takeRule_16 : decode cX5_takeRule 16 = .ok (.ireturn, 1) := by decide +kernel
theorem dX5_takeLimit_0 : decode cX5_takeLimit 0 = .ok (.iload_n 1, 1) := by decide +kernel
theorem dX5_takeLimit_1 : decode cX5_takeLimit 1 = .ok (.bipush 11, 2) := by decide +kernel
theorem dX5_takeLimit_3 : decode cX5_takeLimit 3 = .ok (.invokestatic 72, 3) := by decide +kernel
theorem dX5_takeLimit_6 : decode cX5_takeLimit 6 = .ok (.ifCond .ne 5, 3) := by decide +kernel
theorem dX5_takeLimit_9 : decode cX5_takeLimit 9 = .ok (.iconst 0, 1) := by decide +kernel
theorem dX5_takeLimit_10 : decode cX5_takeLimit 10 = .ok (.ireturn, 1) := by decide +kernel
theorem dX5_takeLimit_11 : decode cX5_takeLimit 11 = .ok (.aload_n 0, 1) := by decide +kernel
theorem dX5_takeLimit_12 : decode cX5_takeLimit 12 = .ok (.iload_n 1, 1) := by decide +kernel
theorem dX5_takeLimit_13 : decode cX5_takeLimit 13 = .ok (.putfield 28, 3) := by decide +kernel
theorem dX5_takeLimit_16 : decode cX5_takeLimit 16 = .ok (.iconst 1, 1) := by decide +kernel
theorem dX5_takeLimit_17 : decode cX5_takeLimit 17 = .ok (.ireturn, 1) := by decide +kernel
theorem dX5_takeQuestion_0 : decode cX5_takeQuestion 0 = .ok (.aload_n 0, 1) := by decide +kernel
theorem dX5_takeQuestion_1 : decode cX5_takeQuestion 1 = .ok (.aload_n 1, 1) := by decide +kernel
theorem dX5_takeQuestion_2 : decode cX5_takeQuestion 2 = .ok (.aload_n 0, 1) := by decide +kernel
theorem dX5_takeQuestion_3 : decode cX5_takeQuestion 3 = .ok (.getfield 62, 3) := by decide +kernel
theorem dX5_takeQuestion_6 : decode cX5_takeQuestion 6 = .ok (.aload_n 0, 1) := by decide +kernel
theorem dX5_takeQuestion_7 : decode cX5_takeQuestion 7 = .ok (.getfield 28, 3) := by decide +kernel
theorem dX5_takeQuestion_10 : decode cX5_takeQuestion 10 = .ok (.invokevirtual 106, 3) := by decide +kernel
theorem dX5_takeQuestion_13 : decode cX5_takeQuestion 13 = .ok (.istore_n 2, 1) := by decide +kernel
theorem dX5_takeQuestion_14 : decode cX5_takeQuestion 14 = .ok (.iload_n 2, 1) := by decide +kernel
theorem dX5_takeQuestion_15 : decode cX5_takeQuestion 15 = .ok (.iconst 1, 1) := by decide +kernel
theorem dX5_takeQuestion_16 : decode cX5_takeQuestion 16 = .ok (.if_icmp .ne 8, 3) := by decide +kernel
theorem dX5_takeQuestion_19 : decode cX5_takeQuestion 19 = .ok (.aload_n 0, 1) := by decide +kernel
theorem dX5_takeQuestion_20 : decode cX5_takeQuestion 20 = .ok (.aload_n 1, 1) := by decide +kernel
theorem dX5_takeQuestion_21 : decode cX5_takeQuestion 21 = .ok (.invokevirtual 110, 3) := by decide +kernel
theorem dX5_takeQuestion_24 : decode cX5_takeQuestion 24 = .ok (.iload_n 2, 1) := by decide +kernel
theorem dX5_takeQuestion_25 : decode cX5_takeQuestion 25 = .ok (.ireturn, 1) := by decide +kernel
theorem dX5_meetingBy_0 : decode cX5_meetingBy 0 = .ok (.aload_n 0, 1) := by decide +kernel
theorem dX5_meetingBy_1 : decode cX5_meetingBy 1 = .ok (.aload_n 1, 1) := by decide +kernel
theorem dX5_meetingBy_2 : decode cX5_meetingBy 2 = .ok (.invokevirtual 114, 3) := by decide +kernel
theorem dX5_meetingBy_5 : decode cX5_meetingBy 5 = .ok (.aload_n 0, 1) := by decide +kernel
theorem dX5_meetingBy_6 : decode cX5_meetingBy 6 = .ok (.getfield 52, 3) := by decide +kernel
theorem dX5_meetingBy_9 : decode cX5_meetingBy 9 = .ok (.invokestatic 117, 3) := by decide +kernel
theorem dX5_meetingBy_12 : decode cX5_meetingBy 12 = .ok (.ifCond .ge 5, 3) := by decide +kernel
theorem dX5_meetingBy_15 : decode cX5_meetingBy 15 = .ok (.iconst 0, 1) := by decide +kernel
theorem dX5_meetingBy_16 : decode cX5_meetingBy 16 = .ok (.ireturn, 1) := by decide +kernel
theorem dX5_meetingBy_17 : decode cX5_meetingBy 17 = .ok (.aload_n 0, 1) := by decide +kernel
theorem dX5_meetingBy_18 : decode cX5_meetingBy 18 = .ok (.getfield 42, 3) := by decide +kernel
theorem dX5_meetingBy_21 : decode cX5_meetingBy 21 = .ok (.aload_n 0, 1) := by decide +kernel
theorem dX5_meetingBy_22 : decode cX5_meetingBy 22 = .ok (.getfield 52, 3) := by decide +kernel
theorem dX5_meetingBy_25 : decode cX5_meetingBy 25 = .ok (.invokevirtual 121, 3) := by decide +kernel
theorem dX5_meetingBy_28 : decode cX5_meetingBy 28 = .ok (.ifCond .eq 5, 3) := by decide +kernel
theorem dX5_meetingBy_31 : decode cX5_meetingBy 31 = .ok (.iconst 2, 1) := by decide +kernel
theorem dX5_meetingBy_32 : decode cX5_meetingBy 32 = .ok (.ireturn, 1) := by decide +kernel
theorem dX5_meetingBy_33 : decode cX5_meetingBy 33 = .ok (.iconst 0, 1) := by decide +kernel
theorem dX5_meetingBy_34 : decode cX5_meetingBy 34 = .ok (.istore 4, 2) := by decide +kernel
theorem dX5_meetingBy_36 : decode cX5_meetingBy 36 = .ok (.iload_n 2, 1) := by decide +kernel
theorem dX5_meetingBy_37 : decode cX5_meetingBy 37 = .ok (.iconst 1, 1) := by decide +kernel
theorem dX5_meetingBy_38 : decode cX5_meetingBy 38 = .ok (.if_icmp .ne 32, 3) := by decide +kernel
theorem dX5_meetingBy_41 : decode cX5_meetingBy 41 = .ok (.aload_n 1, 1) := by decide +kernel
theorem dX5_meetingBy_42 : decode cX5_meetingBy 42 = .ok (.invokevirtual 124, 3) := by decide +kernel
theorem dX5_meetingBy_45 : decode cX5_meetingBy 45 = .ok (.istore 5, 2) := by decide +kernel
theorem dX5_meetingBy_47 : decode cX5_meetingBy 47 = .ok (.iload 5, 2) := by decide +kernel
theorem dX5_meetingBy_49 : decode cX5_meetingBy 49 = .ok (.iconst 2, 1) := by decide +kernel
theorem dX5_meetingBy_50 : decode cX5_meetingBy 50 = .ok (.if_icmp .lt 10, 3) := by decide +kernel
theorem dX5_meetingBy_53 : decode cX5_meetingBy 53 = .ok (.iload 5, 2) := by decide +kernel
theorem dX5_meetingBy_55 : decode cX5_meetingBy 55 = .ok (.bipush 6, 2) := by decide +kernel
theorem dX5_meetingBy_57 : decode cX5_meetingBy 57 = .ok (.if_icmp .le 7, 3) := by decide +kernel
theorem dX5_meetingBy_60 : decode cX5_meetingBy 60 = .ok (.iconst 1, 1) := by decide +kernel
theorem dX5_meetingBy_61 : decode cX5_meetingBy 61 = .ok (.goto 4, 3) := by decide +kernel
theorem dX5_meetingBy_64 : decode cX5_meetingBy 64 = .ok (.iconst 0, 1) := by decide +kernel
theorem dX5_meetingBy_65 : decode cX5_meetingBy 65 = .ok (.istore 4, 2) := by decide +kernel
theorem dX5_meetingBy_67 : decode cX5_meetingBy 67 = .ok (.goto 64, 3) := by decide +kernel
theorem dX5_meetingBy_70 : decode cX5_meetingBy 70 = .ok (.iload_n 2, 1) := by decide +kernel
theorem dX5_meetingBy_71 : decode cX5_meetingBy 71 = .ok (.iconst 2, 1) := by decide +kernel
theorem dX5_meetingBy_72 : decode cX5_meetingBy 72 = .ok (.if_icmp .ne 37, 3) := by decide +kernel
theorem dX5_meetingBy_75 : decode cX5_meetingBy 75 = .ok (.aload_n 0, 1) := by decide +kernel
theorem dX5_meetingBy_76 : decode cX5_meetingBy 76 = .ok (.getfield 46, 3) := by decide +kernel
theorem dX5_meetingBy_79 : decode cX5_meetingBy 79 = .ok (.aload_n 0, 1) := by decide +kernel
theorem dX5_meetingBy_80 : decode cX5_meetingBy 80 = .ok (.getfield 42, 3) := by decide +kernel
theorem dX5_meetingBy_83 : decode cX5_meetingBy 83 = .ok (.invokevirtual 68, 3) := by decide +kernel
theorem dX5_meetingBy_86 : decode cX5_meetingBy 86 = .ok (.aload_n 0, 1) := by decide +kernel
theorem dX5_meetingBy_87 : decode cX5_meetingBy 87 = .ok (.getfield 46, 3) := by decide +kernel
theorem dX5_meetingBy_90 : decode cX5_meetingBy 90 = .ok (.aload_n 0, 1) := by decide +kernel
theorem dX5_meetingBy_91 : decode cX5_meetingBy 91 = .ok (.getfield 52, 3) := by decide +kernel
theorem dX5_meetingBy_94 : decode cX5_meetingBy 94 = .ok (.invokevirtual 129, 3) := by decide +kernel
theorem dX5_meetingBy_97 : decode cX5_meetingBy 97 = .ok (.aload_n 0, 1) := by decide +kernel
theorem dX5_meetingBy_98 : decode cX5_meetingBy 98 = .ok (.getfield 46, 3) := by decide +kernel
theorem dX5_meetingBy_101 : decode cX5_meetingBy 101 = .ok (.invokevirtual 132, 3) := by decide +kernel
theorem dX5_meetingBy_104 : decode cX5_meetingBy 104 = .ok (.istore 4, 2) := by decide +kernel
theorem dX5_meetingBy_106 : decode cX5_meetingBy 106 = .ok (.goto 25, 3) := by decide +kernel
theorem dX5_meetingBy_109 : decode cX5_meetingBy 109 = .ok (.iload_n 2, 1) := by decide +kernel
theorem dX5_meetingBy_110 : decode cX5_meetingBy 110 = .ok (.iconst 3, 1) := by decide +kernel
theorem dX5_meetingBy_111 : decode cX5_meetingBy 111 = .ok (.if_icmp .ne 20, 3) := by decide +kernel
theorem dX5_meetingBy_114 : decode cX5_meetingBy 114 = .ok (.aload_n 0, 1) := by decide +kernel
theorem dX5_meetingBy_115 : decode cX5_meetingBy 115 = .ok (.getfield 65, 3) := by decide +kernel
theorem dX5_meetingBy_118 : decode cX5_meetingBy 118 = .ok (.iconst 1, 1) := by decide +kernel
theorem dX5_meetingBy_119 : decode cX5_meetingBy 119 = .ok (.iadd, 1) := by decide +kernel
theorem dX5_meetingBy_120 : decode cX5_meetingBy 120 = .ok (.iload_n 3, 1) := by decide +kernel
theorem dX5_meetingBy_121 : decode cX5_meetingBy 121 = .ok (.if_icmp .le 7, 3) := by decide +kernel
theorem dX5_meetingBy_124 : decode cX5_meetingBy 124 = .ok (.iconst 1, 1) := by decide +kernel
theorem dX5_meetingBy_125 : decode cX5_meetingBy 125 = .ok (.goto 4, 3) := by decide +kernel
theorem dX5_meetingBy_128 : decode cX5_meetingBy 128 = .ok (.iconst 0, 1) := by decide +kernel
theorem dX5_meetingBy_129 : decode cX5_meetingBy 129 = .ok (.istore 4, 2) := by decide +kernel
theorem dX5_meetingBy_131 : decode cX5_meetingBy 131 = .ok (.iload 4, 2) := by decide +kernel
theorem dX5_meetingBy_133 : decode cX5_meetingBy 133 = .ok (.ifCond .eq 7, 3) := by decide +kernel
theorem dX5_meetingBy_136 : decode cX5_meetingBy 136 = .ok (.iconst 2, 1) := by decide +kernel
theorem dX5_meetingBy_137 : decode cX5_meetingBy 137 = .ok (.goto 4, 3) := by decide +kernel
theorem dX5_meetingBy_140 : decode cX5_meetingBy 140 = .ok (.iconst 1, 1) := by decide +kernel
theorem dX5_meetingBy_141 : decode cX5_meetingBy 141 = .ok (.ireturn, 1) := by decide +kernel
theorem dX5_fixedBitsWith_0 : decode cX5_fixedBitsWith 0 = .ok (.aload_n 0, 1) := by decide +kernel
theorem dX5_fixedBitsWith_1 : decode cX5_fixedBitsWith 1 = .ok (.aload_n 1, 1) := by decide +kernel
theorem dX5_fixedBitsWith_2 : decode cX5_fixedBitsWith 2 = .ok (.invokevirtual 114, 3) := by decide +kernel
theorem dX5_fixedBitsWith_5 : decode cX5_fixedBitsWith 5 = .ok (.aload_n 0, 1) := by decide +kernel
theorem dX5_fixedBitsWith_6 : decode cX5_fixedBitsWith 6 = .ok (.getfield 42, 3) := by decide +kernel
theorem dX5_fixedBitsWith_9 : decode cX5_fixedBitsWith 9 = .ok (.aload_n 0, 1) := by decide +kernel
theorem dX5_fixedBitsWith_10 : decode cX5_fixedBitsWith 10 = .ok (.getfield 52, 3) := by decide +kernel
theorem dX5_fixedBitsWith_13 : decode cX5_fixedBitsWith 13 = .ok (.invokevirtual 121, 3) := by decide +kernel
theorem dX5_fixedBitsWith_16 : decode cX5_fixedBitsWith 16 = .ok (.ireturn, 1) := by decide +kernel
theorem dX5_join_0 : decode cX5_join 0 = .ok (.aload_n 0, 1) := by decide +kernel
theorem dX5_join_1 : decode cX5_join 1 = .ok (.aload_n 1, 1) := by decide +kernel
theorem dX5_join_2 : decode cX5_join 2 = .ok (.invokevirtual 114, 3) := by decide +kernel
theorem dX5_join_5 : decode cX5_join 5 = .ok (.aload_n 0, 1) := by decide +kernel
theorem dX5_join_6 : decode cX5_join 6 = .ok (.getfield 52, 3) := by decide +kernel
theorem dX5_join_9 : decode cX5_join 9 = .ok (.invokestatic 117, 3) := by decide +kernel
theorem dX5_join_12 : decode cX5_join 12 = .ok (.ifCond .lt 15, 3) := by decide +kernel
theorem dX5_join_15 : decode cX5_join 15 = .ok (.aload_n 0, 1) := by decide +kernel
theorem dX5_join_16 : decode cX5_join 16 = .ok (.getfield 65, 3) := by decide +kernel
theorem dX5_join_19 : decode cX5_join 19 = .ok (.bipush 10, 2) := by decide +kernel
theorem dX5_join_21 : decode cX5_join 21 = .ok (.invokestatic 72, 3) := by decide +kernel
theorem dX5_join_24 : decode cX5_join 24 = .ok (.ifCond .ne 4, 3) := by decide +kernel
theorem dX5_join_27 : decode cX5_join 27 = .ok (.return_, 1) := by decide +kernel
theorem dX5_join_28 : decode cX5_join 28 = .ok (.aload_n 0, 1) := by decide +kernel
theorem dX5_join_29 : decode cX5_join 29 = .ok (.getfield 49, 3) := by decide +kernel
theorem dX5_join_32 : decode cX5_join 32 = .ok (.iconst 0, 1) := by decide +kernel
theorem dX5_join_33 : decode cX5_join 33 = .ok (.aload_n 0, 1) := by decide +kernel
theorem dX5_join_34 : decode cX5_join 34 = .ok (.getfield 33, 3) := by decide +kernel
theorem dX5_join_37 : decode cX5_join 37 = .ok (.aload_n 0, 1) := by decide +kernel
theorem dX5_join_38 : decode cX5_join 38 = .ok (.getfield 65, 3) := by decide +kernel
theorem dX5_join_41 : decode cX5_join 41 = .ok (.aaload, 1) := by decide +kernel
theorem dX5_join_42 : decode cX5_join 42 = .ok (.iconst 0, 1) := by decide +kernel
theorem dX5_join_43 : decode cX5_join 43 = .ok (.bipush 10, 2) := by decide +kernel
theorem dX5_join_45 : decode cX5_join 45 = .ok (.invokestatic 56, 3) := by decide +kernel
theorem dX5_join_48 : decode cX5_join 48 = .ok (.aload_n 0, 1) := by decide +kernel
theorem dX5_join_49 : decode cX5_join 49 = .ok (.getfield 36, 3) := by decide +kernel
theorem dX5_join_52 : decode cX5_join 52 = .ok (.aload_n 0, 1) := by decide +kernel
theorem dX5_join_53 : decode cX5_join 53 = .ok (.getfield 65, 3) := by decide +kernel
theorem dX5_join_56 : decode cX5_join 56 = .ok (.aload_n 0, 1) := by decide +kernel
theorem dX5_join_57 : decode cX5_join 57 = .ok (.aload_n 1, 1) := by decide +kernel
theorem dX5_join_58 : decode cX5_join 58 = .ok (.invokevirtual 136, 3) := by decide +kernel
theorem dX5_join_61 : decode cX5_join 61 = .ok (.iastore, 1) := by decide +kernel
theorem dX5_join_62 : decode cX5_join 62 = .ok (.aload_n 0, 1) := by decide +kernel
theorem dX5_join_63 : decode cX5_join 63 = .ok (.dup, 1) := by decide +kernel
theorem dX5_join_64 : decode cX5_join 64 = .ok (.getfield 65, 3) := by decide +kernel
theorem dX5_join_67 : decode cX5_join 67 = .ok (.iconst 1, 1) := by decide +kernel
theorem dX5_join_68 : decode cX5_join 68 = .ok (.iadd, 1) := by decide +kernel
theorem dX5_join_69 : decode cX5_join 69 = .ok (.putfield 65, 3) := by decide +kernel
theorem dX5_join_72 : decode cX5_join 72 = .ok (.aload_n 0, 1) := by decide +kernel
theorem dX5_join_73 : decode cX5_join 73 = .ok (.getfield 42, 3) := by decide +kernel
theorem dX5_join_76 : decode cX5_join 76 = .ok (.aload_n 0, 1) := by decide +kernel
theorem dX5_join_77 : decode cX5_join 77 = .ok (.getfield 52, 3) := by decide +kernel
theorem dX5_join_80 : decode cX5_join 80 = .ok (.invokevirtual 129, 3) := by decide +kernel
theorem dX5_join_83 : decode cX5_join 83 = .ok (.return_, 1) := by decide +kernel
theorem dX5_trueAnswer_0 : decode cX5_trueAnswer 0 = .ok (.iconst 0, 1) := by decide +kernel
theorem dX5_trueAnswer_1 : decode cX5_trueAnswer 1 = .ok (.istore_n 2, 1) := by decide +kernel
theorem dX5_trueAnswer_2 : decode cX5_trueAnswer 2 = .ok (.iconst 0, 1) := by decide +kernel
theorem dX5_trueAnswer_3 : decode cX5_trueAnswer 3 = .ok (.istore_n 3, 1) := by decide +kernel
theorem dX5_trueAnswer_4 : decode cX5_trueAnswer 4 = .ok (.iload_n 3, 1) := by decide +kernel
theorem dX5_trueAnswer_5 : decode cX5_trueAnswer 5 = .ok (.bipush 8, 2) := by decide +kernel
theorem dX5_trueAnswer_7 : decode cX5_trueAnswer 7 = .ok (.if_icmp .ge 44, 3) := by decide +kernel
theorem dX5_trueAnswer_10 : decode cX5_trueAnswer 10 = .ok (.aload_n 0, 1) := by decide +kernel
theorem dX5_trueAnswer_11 : decode cX5_trueAnswer 11 = .ok (.getfield 9, 3) := by decide +kernel
theorem dX5_trueAnswer_14 : decode cX5_trueAnswer 14 = .ok (.iload_n 3, 1) := by decide +kernel
theorem dX5_trueAnswer_15 : decode cX5_trueAnswer 15 = .ok (.iaload, 1) := by decide +kernel
theorem dX5_trueAnswer_16 : decode cX5_trueAnswer 16 = .ok (.istore 4, 2) := by decide +kernel
theorem dX5_trueAnswer_18 : decode cX5_trueAnswer 18 = .ok (.iload 4, 2) := by decide +kernel
theorem dX5_trueAnswer_20 : decode cX5_trueAnswer 20 = .ok (.bipush 10, 2) := by decide +kernel
theorem dX5_trueAnswer_22 : decode cX5_trueAnswer 22 = .ok (.invokestatic 72, 3) := by decide +kernel
theorem dX5_trueAnswer_25 : decode cX5_trueAnswer 25 = .ok (.ifCond .eq 20, 3) := by decide +kernel
theorem dX5_trueAnswer_28 : decode cX5_trueAnswer 28 = .ok (.iload_n 2, 1) := by decide +kernel
theorem dX5_trueAnswer_29 : decode cX5_trueAnswer 29 = .ok (.aload_n 1, 1) := by decide +kernel
theorem dX5_trueAnswer_30 : decode cX5_trueAnswer 30 = .ok (.getfield 140, 3) := by decide +kernel
theorem dX5_trueAnswer_33 : decode cX5_trueAnswer 33 = .ok (.iload_n 3, 1) := by decide +kernel
theorem dX5_trueAnswer_34 : decode cX5_trueAnswer 34 = .ok (.iaload, 1) := by decide +kernel
theorem dX5_trueAnswer_35 : decode cX5_trueAnswer 35 = .ok (.aload_n 0, 1) := by decide +kernel
theorem dX5_trueAnswer_36 : decode cX5_trueAnswer 36 = .ok (.getfield 15, 3) := by decide +kernel
theorem dX5_trueAnswer_39 : decode cX5_trueAnswer 39 = .ok (.iload 4, 2) := by decide +kernel
theorem dX5_trueAnswer_41 : decode cX5_trueAnswer 41 = .ok (.iaload, 1) := by decide +kernel
theorem dX5_trueAnswer_42 : decode cX5_trueAnswer 42 = .ok (.imul, 1) := by decide +kernel
theorem dX5_trueAnswer_43 : decode cX5_trueAnswer 43 = .ok (.iadd, 1) := by decide +kernel
theorem dX5_trueAnswer_44 : decode cX5_trueAnswer 44 = .ok (.istore_n 2, 1) := by decide +kernel
theorem dX5_trueAnswer_45 : decode cX5_trueAnswer 45 = .ok (.iinc 3 1, 3) := by decide +kernel
theorem dX5_trueAnswer_48 : decode cX5_trueAnswer 48 = .ok (.goto (-44), 3) := by decide +kernel
theorem dX5_trueAnswer_51 : decode cX5_trueAnswer 51 = .ok (.iload_n 2, 1) := by decide +kernel
theorem dX5_trueAnswer_52 : decode cX5_trueAnswer 52 = .ok (.ireturn, 1) := by decide +kernel
theorem dX5_findRest_0 : decode cX5_findRest 0 = .ok (.iconst 0, 1) := by decide +kernel
theorem dX5_findRest_1 : decode cX5_findRest 1 = .ok (.istore_n 2, 1) := by decide +kernel
theorem dX5_findRest_2 : decode cX5_findRest 2 = .ok (.iload_n 2, 1) := by decide +kernel
theorem dX5_findRest_3 : decode cX5_findRest 3 = .ok (.bipush 10, 2) := by decide +kernel
theorem dX5_findRest_5 : decode cX5_findRest 5 = .ok (.if_icmp .ge 16, 3) := by decide +kernel
theorem dX5_findRest_8 : decode cX5_findRest 8 = .ok (.aload_n 0, 1) := by decide +kernel
theorem dX5_findRest_9 : decode cX5_findRest 9 = .ok (.getfield 49, 3) := by decide +kernel
theorem dX5_findRest_12 : decode cX5_findRest 12 = .ok (.iload_n 2, 1) := by decide +kernel
theorem dX5_findRest_13 : decode cX5_findRest 13 = .ok (.iconst 0, 1) := by decide +kernel
theorem dX5_findRest_14 : decode cX5_findRest 14 = .ok (.iastore, 1) := by decide +kernel
theorem dX5_findRest_15 : decode cX5_findRest 15 = .ok (.iinc 2 1, 3) := by decide +kernel
theorem dX5_findRest_18 : decode cX5_findRest 18 = .ok (.goto (-16), 3) := by decide +kernel
theorem dX5_findRest_21 : decode cX5_findRest 21 = .ok (.iconst 0, 1) := by decide +kernel
theorem dX5_findRest_22 : decode cX5_findRest 22 = .ok (.istore_n 2, 1) := by decide +kernel
theorem dX5_findRest_23 : decode cX5_findRest 23 = .ok (.iload_n 2, 1) := by decide +kernel
theorem dX5_findRest_24 : decode cX5_findRest 24 = .ok (.bipush 8, 2) := by decide +kernel
theorem dX5_findRest_26 : decode cX5_findRest 26 = .ok (.if_icmp .ge 37, 3) := by decide +kernel
theorem dX5_findRest_29 : decode cX5_findRest 29 = .ok (.aload_n 0, 1) := by decide +kernel
theorem dX5_findRest_30 : decode cX5_findRest 30 = .ok (.getfield 9, 3) := by decide +kernel
theorem dX5_findRest_33 : decode cX5_findRest 33 = .ok (.iload_n 2, 1) := by decide +kernel
theorem dX5_findRest_34 : decode cX5_findRest 34 = .ok (.iaload, 1) := by decide +kernel
theorem dX5_findRest_35 : decode cX5_findRest 35 = .ok (.istore_n 3, 1) := by decide +kernel
theorem dX5_findRest_36 : decode cX5_findRest 36 = .ok (.iload_n 3, 1) := by decide +kernel
theorem dX5_findRest_37 : decode cX5_findRest 37 = .ok (.bipush 10, 2) := by decide +kernel
theorem dX5_findRest_39 : decode cX5_findRest 39 = .ok (.invokestatic 72, 3) := by decide +kernel
theorem dX5_findRest_42 : decode cX5_findRest 42 = .ok (.ifCond .eq 15, 3) := by decide +kernel
theorem dX5_findRest_45 : decode cX5_findRest 45 = .ok (.aload_n 0, 1) := by decide +kernel
theorem dX5_findRest_46 : decode cX5_findRest 46 = .ok (.getfield 49, 3) := by decide +kernel
theorem dX5_findRest_49 : decode cX5_findRest 49 = .ok (.iload_n 3, 1) := by decide +kernel
theorem dX5_findRest_50 : decode cX5_findRest 50 = .ok (.aload_n 1, 1) := by decide +kernel
theorem dX5_findRest_51 : decode cX5_findRest 51 = .ok (.getfield 140, 3) := by decide +kernel
theorem dX5_findRest_54 : decode cX5_findRest 54 = .ok (.iload_n 2, 1) := by decide +kernel
theorem dX5_findRest_55 : decode cX5_findRest 55 = .ok (.iaload, 1) := by decide +kernel
theorem dX5_findRest_56 : decode cX5_findRest 56 = .ok (.iastore, 1) := by decide +kernel
theorem dX5_findRest_57 : decode cX5_findRest 57 = .ok (.iinc 2 1, 3) := by decide +kernel
theorem dX5_findRest_60 : decode cX5_findRest 60 = .ok (.goto (-37), 3) := by decide +kernel
theorem dX5_findRest_63 : decode cX5_findRest 63 = .ok (.aload_n 0, 1) := by decide +kernel
theorem dX5_findRest_64 : decode cX5_findRest 64 = .ok (.getfield 42, 3) := by decide +kernel
theorem dX5_findRest_67 : decode cX5_findRest 67 = .ok (.aload_n 0, 1) := by decide +kernel
theorem dX5_findRest_68 : decode cX5_findRest 68 = .ok (.getfield 49, 3) := by decide +kernel
theorem dX5_findRest_71 : decode cX5_findRest 71 = .ok (.aload_n 0, 1) := by decide +kernel
theorem dX5_findRest_72 : decode cX5_findRest 72 = .ok (.getfield 52, 3) := by decide +kernel
theorem dX5_findRest_75 : decode cX5_findRest 75 = .ok (.invokevirtual 143, 3) := by decide +kernel
theorem dX5_findRest_78 : decode cX5_findRest 78 = .ok (.return_, 1) := by decide +kernel
theorem dX6_init_0 : decode cX6_init 0 = .ok (.aload_n 0, 1) := by decide +kernel
theorem dX6_init_1 : decode cX6_init 1 = .ok (.invokespecial 1, 3) := by decide +kernel
theorem dX6_init_4 : decode cX6_init 4 = .ok (.aload_n 0, 1) := by decide +kernel
theorem dX6_init_5 : decode cX6_init 5 = .ok (.new 7, 3) := by decide +kernel
theorem dX6_init_8 : decode cX6_init 8 = .ok (.dup, 1) := by decide +kernel
theorem dX6_init_9 : decode cX6_init 9 = .ok (.invokespecial 9, 3) := by decide +kernel
theorem dX6_init_12 : decode cX6_init 12 = .ok (.putfield 10, 3) := by decide +kernel
theorem dX6_init_15 : decode cX6_init 15 = .ok (.aload_n 0, 1) := by decide +kernel
theorem dX6_init_16 : decode cX6_init 16 = .ok (.new 7, 3) := by decide +kernel
theorem dX6_init_19 : decode cX6_init 19 = .ok (.dup, 1) := by decide +kernel
theorem dX6_init_20 : decode cX6_init 20 = .ok (.invokespecial 9, 3) := by decide +kernel
theorem dX6_init_23 : decode cX6_init 23 = .ok (.putfield 16, 3) := by decide +kernel
theorem dX6_init_26 : decode cX6_init 26 = .ok (.aload_n 0, 1) := by decide +kernel
theorem dX6_init_27 : decode cX6_init 27 = .ok (.new 7, 3) := by decide +kernel
theorem dX6_init_30 : decode cX6_init 30 = .ok (.dup, 1) := by decide +kernel
theorem dX6_init_31 : decode cX6_init 31 = .ok (.invokespecial 9, 3) := by decide +kernel
theorem dX6_init_34 : decode cX6_init 34 = .ok (.putfield 19, 3) := by decide +kernel
theorem dX6_init_37 : decode cX6_init 37 = .ok (.aload_n 0, 1) := by decide +kernel
theorem dX6_init_38 : decode cX6_init 38 = .ok (.new 22, 3) := by decide +kernel
theorem dX6_init_41 : decode cX6_init 41 = .ok (.dup, 1) := by decide +kernel
theorem dX6_init_42 : decode cX6_init 42 = .ok (.invokespecial 24, 3) := by decide +kernel
theorem dX6_init_45 : decode cX6_init 45 = .ok (.putfield 25, 3) := by decide +kernel
theorem dX6_init_48 : decode cX6_init 48 = .ok (.aload_n 0, 1) := by decide +kernel
theorem dX6_init_49 : decode cX6_init 49 = .ok (.new 29, 3) := by decide +kernel
theorem dX6_init_52 : decode cX6_init 52 = .ok (.dup, 1) := by decide +kernel
theorem dX6_init_53 : decode cX6_init 53 = .ok (.invokespecial 31, 3) := by decide +kernel
theorem dX6_init_56 : decode cX6_init 56 = .ok (.putfield 32, 3) := by decide +kernel
theorem dX6_init_59 : decode cX6_init 59 = .ok (.aload_n 0, 1) := by decide +kernel
theorem dX6_init_60 : decode cX6_init 60 = .ok (.new 36, 3) := by decide +kernel
theorem dX6_init_63 : decode cX6_init 63 = .ok (.dup, 1) := by decide +kernel
theorem dX6_init_64 : decode cX6_init 64 = .ok (.bipush 96, 2) := by decide +kernel
theorem dX6_init_66 : decode cX6_init 66 = .ok (.invokespecial 38, 3) := by decide +kernel
theorem dX6_init_69 : decode cX6_init 69 = .ok (.putfield 41, 3) := by decide +kernel
theorem dX6_init_72 : decode cX6_init 72 = .ok (.aload_n 0, 1) := by decide +kernel
theorem dX6_init_73 : decode cX6_init 73 = .ok (.new 36, 3) := by decide +kernel
theorem dX6_init_76 : decode cX6_init 76 = .ok (.dup, 1) := by decide +kernel
theorem dX6_init_77 : decode cX6_init 77 = .ok (.bipush 32, 2) := by decide +kernel
theorem dX6_init_79 : decode cX6_init 79 = .ok (.invokespecial 38, 3) := by decide +kernel
theorem dX6_init_82 : decode cX6_init 82 = .ok (.putfield 45, 3) := by decide +kernel
theorem dX6_init_85 : decode cX6_init 85 = .ok (.aload_n 0, 1) := by decide +kernel
theorem dX6_init_86 : decode cX6_init 86 = .ok (.bipush 6, 2) := by decide +kernel
theorem dX6_init_88 : decode cX6_init 88 = .ok (.newarray .int, 2) := by decide +kernel
theorem dX6_init_90 : decode cX6_init 90 = .ok (.putfield 48, 3) := by decide +kernel
theorem dX6_init_93 : decode cX6_init 93 = .ok (.return_, 1) := by decide +kernel
theorem dX6_letter_0 : decode cX6_letter 0 = .ok (.aload_n 0, 1) := by decide +kernel
theorem dX6_letter_1 : decode cX6_letter 1 = .ok (.aload_n 0, 1) := by decide +kernel
theorem dX6_letter_2 : decode cX6_letter 2 = .ok (.getfield 41, 3) := by decide +kernel
theorem dX6_letter_5 : decode cX6_letter 5 = .ok (.iload_n 1, 1) := by decide +kernel
theorem dX6_letter_6 : decode cX6_letter 6 = .ok (.invokevirtual 52, 3) := by decide +kernel
theorem dX6_letter_9 : decode cX6_letter 9 = .ok (.ireturn, 1) := by decide +kernel
theorem dX6_guard_0 : decode cX6_guard 0 = .ok (.aload_n 0, 1) := by decide +kernel
theorem dX6_guard_1 : decode cX6_guard 1 = .ok (.getfield 16, 3) := by decide +kernel
theorem dX6_guard_4 : decode cX6_guard 4 = .ok (.aload_n 0, 1) := by decide +kernel
theorem dX6_guard_5 : decode cX6_guard 5 = .ok (.getfield 10, 3) := by decide +kernel
theorem dX6_guard_8 : decode cX6_guard 8 = .ok (.invokevirtual 56, 3) := by decide +kernel
theorem dX6_guard_11 : decode cX6_guard 11 = .ok (.aload_n 0, 1) := by decide +kernel
theorem dX6_guard_12 : decode cX6_guard 12 = .ok (.getfield 41, 3) := by decide +kernel
theorem dX6_guard_15 : decode cX6_guard 15 = .ok (.aload_n 0, 1) := by decide +kernel
theorem dX6_guard_16 : decode cX6_guard 16 = .ok (.getfield 16, 3) := by decide +kernel
theorem dX6_guard_19 : decode cX6_guard 19 = .ok (.aload_n 0, 1) := by decide +kernel
theorem dX6_guard_20 : decode cX6_guard 20 = .ok (.getfield 25, 3) := by decide +kernel
theorem dX6_guard_23 : decode cX6_guard 23 = .ok (.invokestatic 60, 3) := by decide +kernel
theorem dX6_guard_26 : decode cX6_guard 26 = .ok (.istore_n 1, 1) := by decide +kernel
theorem dX6_guard_27 : decode cX6_guard 27 = .ok (.aload_n 0, 1) := by decide +kernel
theorem dX6_guard_28 : decode cX6_guard 28 = .ok (.getfield 41, 3) := by decide +kernel
theorem dX6_guard_31 : decode cX6_guard 31 = .ok (.invokevirtual 66, 3) := by decide +kernel
theorem dX6_guard_34 : decode cX6_guard 34 = .ok (.iload_n 1, 1) := by decide +kernel
theorem dX6_guard_35 : decode cX6_guard 35 = .ok (.ifCond .lt 14, 3) := by decide +kernel
theorem dX6_guard_38 : decode cX6_guard 38 = .ok (.aload_n 0, 1) := by decide +kernel
theorem dX6_guard_39 : decode cX6_guard 39 = .ok (.getfield 10, 3) := by decide +kernel
theorem dX6_guard_42 : decode cX6_guard 42 = .ok (.aload_n 0, 1) := by decide +kernel
theorem dX6_guard_43 : decode cX6_guard 43 = .ok (.getfield 16, 3) := by decide +kernel
theorem dX6_guard_46 : decode cX6_guard 46 = .ok (.invokevirtual 56, 3) := by decide +kernel
theorem dX6_guard_49 : decode cX6_guard 49 = .ok (.iload_n 1, 1) := by decide +kernel
theorem dX6_guard_50 : decode cX6_guard 50 = .ok (.ireturn, 1) := by decide +kernel
theorem dX6_person_0 : decode cX6_person 0 = .ok (.iload_n 1, 1) := by decide +kernel
theorem dX6_person_1 : decode cX6_person 1 = .ok (.bipush 8, 2) := by decide +kernel
theorem dX6_person_3 : decode cX6_person 3 = .ok (.invokestatic 69, 3) := by decide +kernel
theorem dX6_person_6 : decode cX6_person 6 = .ok (.ifCond .ne 9, 3) := by decide +kernel
theorem dX6_person_9 : decode cX6_person 9 = .ok (.aload_n 0, 1) := by decide +kernel
theorem dX6_person_10 : decode cX6_person 10 = .ok (.iconst (-1), 1) := by decide +kernel
theorem dX6_person_11 : decode cX6_person 11 = .ok (.invokevirtual 73, 3) := by decide +kernel
theorem dX6_person_14 : decode cX6_person 14 = .ok (.ireturn, 1) := by decide +kernel
theorem dX6_person_15 : decode cX6_person 15 = .ok (.iload_n 2, 1) := by decide +kernel
theorem dX6_person_16 : decode cX6_person 16 = .ok (.iconst 3, 1) := by decide +kernel
theorem dX6_person_17 : decode cX6_person 17 = .ok (.invokestatic 69, 3) := by decide +kernel
theorem dX6_person_20 : decode cX6_person 20 = .ok (.ifCond .ne 10, 3) := by decide +kernel
theorem dX6_person_23 : decode cX6_person 23 = .ok (.aload_n 0, 1) := by decide +kernel
theorem dX6_person_24 : decode cX6_person 24 = .ok (.bipush (-2), 2) := by decide +kernel
theorem dX6_person_26 : decode cX6_person 26 = .ok (.invokevirtual 73, 3) := by decide +kernel
theorem dX6_person_29 : decode cX6_person 29 = .ok (.ireturn, 1) := by decide +kernel
theorem dX6_person_30 : decode cX6_person 30 = .ok (.aload_n 0, 1) := by decide +kernel
theorem dX6_person_31 : decode cX6_person 31 = .ok (.getfield 10, 3) := by decide +kernel
theorem dX6_person_34 : decode cX6_person 34 = .ok (.iload_n 1, 1) := by decide +kernel
theorem dX6_person_35 : decode cX6_person 35 = .ok (.invokevirtual 77, 3) := by decide +kernel
theorem dX6_person_38 : decode cX6_person 38 = .ok (.istore_n 3, 1) := by decide +kernel
theorem dX6_person_39 : decode cX6_person 39 = .ok (.iload_n 2, 1) := by decide +kernel
theorem dX6_person_40 : decode cX6_person 40 = .ok (.ifCond .ne 14, 3) := by decide +kernel
theorem dX6_person_43 : decode cX6_person 43 = .ok (.aload_n 0, 1) := by decide +kernel
theorem dX6_person_44 : decode cX6_person 44 = .ok (.getfield 10, 3) := by decide +kernel
theorem dX6_person_47 : decode cX6_person 47 = .ok (.iload_n 3, 1) := by decide +kernel
theorem dX6_person_48 : decode cX6_person 48 = .ok (.invokevirtual 80, 3) := by decide +kernel
theorem dX6_person_51 : decode cX6_person 51 = .ok (.goto 23, 3) := by decide +kernel
theorem dX6_person_54 : decode cX6_person 54 = .ok (.iload_n 2, 1) := by decide +kernel
theorem dX6_person_55 : decode cX6_person 55 = .ok (.iconst 1, 1) := by decide +kernel
theorem dX6_person_56 : decode cX6_person 56 = .ok (.if_icmp .ne 7, 3) := by decide +kernel
theorem dX6_person_59 : decode cX6_person 59 = .ok (.iload_n 3, 1) := by decide +kernel
theorem dX6_person_60 : decode cX6_person 60 = .ok (.goto 14, 3) := by decide +kernel
theorem dX6_person_63 : decode cX6_person 63 = .ok (.aload_n 0, 1) := by decide +kernel
theorem dX6_person_64 : decode cX6_person 64 = .ok (.getfield 10, 3) := by decide +kernel
theorem dX6_person_67 : decode cX6_person 67 = .ok (.iload_n 3, 1) := by decide +kernel
theorem dX6_person_68 : decode cX6_person 68 = .ok (.invokevirtual 83, 3) := by decide +kernel
theorem dX6_person_71 : decode cX6_person 71 = .ok (.invokestatic 87, 3) := by decide +kernel
theorem dX6_person_74 : decode cX6_person 74 = .ok (.ireturn, 1) := by decide +kernel
theorem dX6_variable_0 : decode cX6_variable 0 = .ok (.aload_n 0, 1) := by decide +kernel
theorem dX6_variable_1 : decode cX6_variable 1 = .ok (.getfield 10, 3) := by decide +kernel
theorem dX6_variable_4 : decode cX6_variable 4 = .ok (.iload_n 1, 1) := by decide +kernel
theorem dX6_variable_5 : decode cX6_variable 5 = .ok (.invokevirtual 91, 3) := by decide +kernel
theorem dX6_variable_8 : decode cX6_variable 8 = .ok (.ifCond .ne 9, 3) := by decide +kernel
theorem dX6_variable_11 : decode cX6_variable 11 = .ok (.aload_n 0, 1) := by decide +kernel
theorem dX6_variable_12 : decode cX6_variable 12 = .ok (.iconst (-1), 1) := by decide +kernel
theorem dX6_variable_13 : decode cX6_variable 13 = .ok (.invokevirtual 73, 3) := by decide +kernel
theorem dX6_variable_16 : decode cX6_variable 16 = .ok (.ireturn, 1) := by decide +kernel
theorem dX6_variable_17 : decode cX6_variable 17 = .ok (.iload_n 2, 1) := by decide +kernel
theorem dX6_variable_18 : decode cX6_variable 18 = .ok (.bipush 7, 2) := by decide +kernel
theorem dX6_variable_20 : decode cX6_variable 20 = .ok (.invokestatic 69, 3) := by decide +kernel
theorem dX6_variable_23 : decode cX6_variable 23 = .ok (.ifCond .ne 10, 3) := by decide +kernel
theorem dX6_variable_26 : decode cX6_variable 26 = .ok (.aload_n 0, 1) := by decide +kernel
theorem dX6_variable_27 : decode cX6_variable 27 = .ok (.bipush (-2), 2) := by decide +kernel
theorem dX6_variable_29 : decode cX6_variable 29 = .ok (.invokevirtual 73, 3) := by decide +kernel
theorem dX6_variable_32 : decode cX6_variable 32 = .ok (.ireturn, 1) := by decide +kernel
theorem dX6_variable_33 : decode cX6_variable 33 = .ok (.iload_n 2, 1) := by decide +kernel
theorem dX6_variable_34 : decode cX6_variable 34 = .ok (.tableswitch 81 0 6 #[42, 51, 60, 81, 81, 81, 69], 42) := by decide +kernel
theorem dX6_variable_76 : decode cX6_variable 76 = .ok (.aload_n 0, 1) := by decide +kernel
theorem dX6_variable_77 : decode cX6_variable 77 = .ok (.getfield 10, 3) := by decide +kernel
theorem dX6_variable_80 : decode cX6_variable 80 = .ok (.iload_n 1, 1) := by decide +kernel
theorem dX6_variable_81 : decode cX6_variable 81 = .ok (.invokevirtual 80, 3) := by decide +kernel
theorem dX6_variable_84 : decode cX6_variable 84 = .ok (.ireturn, 1) := by decide +kernel
theorem dX6_variable_85 : decode cX6_variable 85 = .ok (.aload_n 0, 1) := by decide +kernel
theorem dX6_variable_86 : decode cX6_variable 86 = .ok (.getfield 10, 3) := by decide +kernel
theorem dX6_variable_89 : decode cX6_variable 89 = .ok (.iload_n 1, 1) := by decide +kernel
theorem dX6_variable_90 : decode cX6_variable 90 = .ok (.invokevirtual 94, 3) := by decide +kernel
theorem dX6_variable_93 : decode cX6_variable 93 = .ok (.ireturn, 1) := by decide +kernel
theorem dX6_variable_94 : decode cX6_variable 94 = .ok (.aload_n 0, 1) := by decide +kernel
theorem dX6_variable_95 : decode cX6_variable 95 = .ok (.getfield 10, 3) := by decide +kernel
theorem dX6_variable_98 : decode cX6_variable 98 = .ok (.iload_n 1, 1) := by decide +kernel
theorem dX6_variable_99 : decode cX6_variable 99 = .ok (.invokevirtual 97, 3) := by decide +kernel
theorem dX6_variable_102 : decode cX6_variable 102 = .ok (.ireturn, 1) := by decide +kernel
theorem dX6_variable_103 : decode cX6_variable 103 = .ok (.aload_n 0, 1) := by decide +kernel
theorem dX6_variable_104 : decode cX6_variable 104 = .ok (.getfield 10, 3) := by decide +kernel
theorem dX6_variable_107 : decode cX6_variable 107 = .ok (.iload_n 1, 1) := by decide +kernel
theorem dX6_variable_108 : decode cX6_variable 108 = .ok (.invokevirtual 83, 3) := by decide +kernel
theorem dX6_variable_111 : decode cX6_variable 111 = .ok (.invokestatic 87, 3) := by decide +kernel
theorem dX6_variable_114 : decode cX6_variable 114 = .ok (.ireturn, 1) := by decide +kernel
theorem dX6_variable_115 : decode cX6_variable 115 = .ok (.aload_n 0, 1) := by decide +kernel
theorem dX6_variable_116 : decode cX6_variable 116 = .ok (.iload_n 1, 1) := by decide +kernel
theorem dX6_variable_117 : decode cX6_variable 117 = .ok (.iload_n 2, 1) := by decide +kernel
theorem dX6_variable_118 : decode cX6_variable 118 = .ok (.invokevirtual 100, 3) := by decide +kernel
theorem dX6_variable_121 : decode cX6_variable 121 = .ok (.ireturn, 1) := by decide +kernel
theorem dX6_narrowed_0 : decode cX6_narrowed 0 = .ok (.aload_n 0, 1) := by decide +kernel
theorem dX6_narrowed_1 : decode cX6_narrowed 1 = .ok (.getfield 32, 3) := by decide +kernel
theorem dX6_narrowed_4 : decode cX6_narrowed 4 = .ok (.aload_n 0, 1) := by decide +kernel
theorem dX6_narrowed_5 : decode cX6_narrowed 5 = .ok (.getfield 10, 3) := by decide +kernel
theorem dX6_narrowed_8 : decode cX6_narrowed 8 = .ok (.invokevirtual 104, 3) := by decide +kernel
theorem dX6_narrowed_11 : decode cX6_narrowed 11 = .ok (.iload_n 2, 1) := by decide +kernel
theorem dX6_narrowed_12 : decode cX6_narrowed 12 = .ok (.iconst 3, 1) := by decide +kernel
theorem dX6_narrowed_13 : decode cX6_narrowed 13 = .ok (.if_icmp .ne 14, 3) := by decide +kernel
theorem dX6_narrowed_16 : decode cX6_narrowed 16 = .ok (.aload_n 0, 1) := by decide +kernel
theorem dX6_narrowed_17 : decode cX6_narrowed 17 = .ok (.getfield 32, 3) := by decide +kernel
theorem dX6_narrowed_20 : decode cX6_narrowed 20 = .ok (.iload_n 1, 1) := by decide +kernel
theorem dX6_narrowed_21 : decode cX6_narrowed 21 = .ok (.invokevirtual 107, 3) := by decide +kernel
theorem dX6_narrowed_24 : decode cX6_narrowed 24 = .ok (.goto 27, 3) := by decide +kernel
theorem dX6_narrowed_27 : decode cX6_narrowed 27 = .ok (.iload_n 2, 1) := by decide +kernel
theorem dX6_narrowed_28 : decode cX6_narrowed 28 = .ok (.iconst 4, 1) := by decide +kernel
theorem dX6_narrowed_29 : decode cX6_narrowed 29 = .ok (.if_icmp .ne 14, 3) := by decide +kernel
theorem dX6_narrowed_32 : decode cX6_narrowed 32 = .ok (.aload_n 0, 1) := by decide +kernel
theorem dX6_narrowed_33 : decode cX6_narrowed 33 = .ok (.getfield 32, 3) := by decide +kernel
theorem dX6_narrowed_36 : decode cX6_narrowed 36 = .ok (.iload_n 1, 1) := by decide +kernel
theorem dX6_narrowed_37 : decode cX6_narrowed 37 = .ok (.invokevirtual 110, 3) := by decide +kernel
theorem dX6_narrowed_40 : decode cX6_narrowed 40 = .ok (.goto 11, 3) := by decide +kernel
theorem dX6_narrowed_43 : decode cX6_narrowed 43 = .ok (.aload_n 0, 1) := by decide +kernel
theorem dX6_narrowed_44 : decode cX6_narrowed 44 = .ok (.getfield 32, 3) := by decide +kernel
theorem dX6_narrowed_47 : decode cX6_narrowed 47 = .ok (.iload_n 1, 1) := by decide +kernel
theorem dX6_narrowed_48 : decode cX6_narrowed 48 = .ok (.invokevirtual 113, 3) := by decide +kernel
theorem dX6_narrowed_51 : decode cX6_narrowed 51 = .ok (.ireturn, 1) := by decide +kernel
theorem dX6_tells_0 : decode cX6_tells 0 = .ok (.iload_n 1, 1) := by decide +kernel
theorem dX6_tells_1 : decode cX6_tells 1 = .ok (.iload_n 2, 1) := by decide +kernel
theorem dX6_tells_2 : decode cX6_tells 2 = .ok (.invokestatic 116, 3) := by decide +kernel
theorem dX6_tells_5 : decode cX6_tells 5 = .ok (.istore_n 3, 1) := by decide +kernel
theorem dX6_tells_6 : decode cX6_tells 6 = .ok (.iload_n 3, 1) := by decide +kernel
theorem dX6_tells_7 : decode cX6_tells 7 = .ok (.ifCond .eq 9, 3) := by decide +kernel
theorem dX6_tells_10 : decode cX6_tells 10 = .ok (.aload_n 0, 1) := by decide +kernel
theorem dX6_tells_11 : decode cX6_tells 11 = .ok (.iload_n 3, 1) := by decide +kernel
theorem dX6_tells_12 : decode cX6_tells 12 = .ok (.invokevirtual 73, 3) := by decide +kernel
theorem dX6_tells_15 : decode cX6_tells 15 = .ok (.ireturn, 1) := by decide +kernel
theorem dX6_tells_16 : decode cX6_tells 16 = .ok (.aload_n 0, 1) := by decide +kernel
theorem dX6_tells_17 : decode cX6_tells 17 = .ok (.getfield 10, 3) := by decide +kernel
theorem dX6_tells_20 : decode cX6_tells 20 = .ok (.aload_n 0, 1) := by decide +kernel
theorem dX6_tells_21 : decode cX6_tells 21 = .ok (.getfield 10, 3) := by decide +kernel
theorem dX6_tells_24 : decode cX6_tells 24 = .ok (.iload_n 1, 1) := by decide +kernel
theorem dX6_tells_25 : decode cX6_tells 25 = .ok (.invokevirtual 77, 3) := by decide +kernel
theorem dX6_tells_28 : decode cX6_tells 28 = .ok (.invokevirtual 80, 3) := by decide +kernel
theorem dX6_tells_31 : decode cX6_tells 31 = .ok (.istore 4, 2) := by decide +kernel
theorem dX6_tells_33 : decode cX6_tells 33 = .ok (.aload_n 0, 1) := by decide +kernel
theorem dX6_tells_34 : decode cX6_tells 34 = .ok (.getfield 10, 3) := by decide +kernel
theorem dX6_tells_37 : decode cX6_tells 37 = .ok (.iload_n 1, 1) := by decide +kernel
theorem dX6_tells_38 : decode cX6_tells 38 = .ok (.iload_n 2, 1) := by decide +kernel
theorem dX6_tells_39 : decode cX6_tells 39 = .ok (.invokevirtual 119, 3) := by decide +kernel
theorem dX6_tells_42 : decode cX6_tells 42 = .ok (.ifCond .eq 8, 3) := by decide +kernel
theorem dX6_tells_45 : decode cX6_tells 45 = .ok (.iload 4, 2) := by decide +kernel
theorem dX6_tells_47 : decode cX6_tells 47 = .ok (.goto 9, 3) := by decide +kernel
theorem dX6_tells_50 : decode cX6_tells 50 = .ok (.aload_n 0, 1) := by decide +kernel
theorem dX6_tells_51 : decode cX6_tells 51 = .ok (.bipush (-3), 2) := by decide +kernel
theorem dX6_tells_53 : decode cX6_tells 53 = .ok (.invokevirtual 73, 3) := by decide +kernel
theorem dX6_tells_56 : decode cX6_tells 56 = .ok (.ireturn, 1) := by decide +kernel
theorem dX6_changes_0 : decode cX6_changes 0 = .ok (.iload_n 1, 1) := by decide +kernel
theorem dX6_changes_1 : decode cX6_changes 1 = .ok (.iload_n 2, 1) := by decide +kernel
theorem dX6_changes_2 : decode cX6_changes 2 = .ok (.invokestatic 116, 3) := by decide +kernel
theorem dX6_changes_5 : decode cX6_changes 5 = .ok (.istore_n 3, 1) := by decide +kernel
theorem dX6_changes_6 : decode cX6_changes 6 = .ok (.iload_n 3, 1) := by decide +kernel
theorem dX6_changes_7 : decode cX6_changes 7 = .ok (.ifCond .eq 9, 3) := by decide +kernel
theorem dX6_changes_10 : decode cX6_changes 10 = .ok (.aload_n 0, 1) := by decide +kernel
theorem dX6_changes_11 : decode cX6_changes 11 = .ok (.iload_n 3, 1) := by decide +kernel
theorem dX6_changes_12 : decode cX6_changes 12 = .ok (.invokevirtual 73, 3) := by decide +kernel
theorem dX6_changes_15 : decode cX6_changes 15 = .ok (.ireturn, 1) := by decide +kernel
theorem dX6_changes_16 : decode cX6_changes 16 = .ok (.aload_n 0, 1) := by decide +kernel
theorem dX6_changes_17 : decode cX6_changes 17 = .ok (.getfield 10, 3) := by decide +kernel
theorem dX6_changes_20 : decode cX6_changes 20 = .ok (.iload_n 1, 1) := by decide +kernel
theorem dX6_changes_21 : decode cX6_changes 21 = .ok (.iload_n 2, 1) := by decide +kernel
theorem dX6_changes_22 : decode cX6_changes 22 = .ok (.invokevirtual 122, 3) := by decide +kernel
theorem dX6_changes_25 : decode cX6_changes 25 = .ok (.ifCond .eq 14, 3) := by decide +kernel
theorem dX6_changes_28 : decode cX6_changes 28 = .ok (.aload_n 0, 1) := by decide +kernel
theorem dX6_changes_29 : decode cX6_changes 29 = .ok (.getfield 10, 3) := by decide +kernel
theorem dX6_changes_32 : decode cX6_changes 32 = .ok (.iload_n 1, 1) := by decide +kernel
theorem dX6_changes_33 : decode cX6_changes 33 = .ok (.invokevirtual 77, 3) := by decide +kernel
theorem dX6_changes_36 : decode cX6_changes 36 = .ok (.goto 9, 3) := by decide +kernel
theorem dX6_changes_39 : decode cX6_changes 39 = .ok (.aload_n 0, 1) := by decide +kernel
theorem dX6_changes_40 : decode cX6_changes 40 = .ok (.bipush (-6), 2) := by decide +kernel
theorem dX6_changes_42 : decode cX6_changes 42 = .ok (.invokevirtual 73, 3) := by decide +kernel
theorem dX6_changes_45 : decode cX6_changes 45 = .ok (.ireturn, 1) := by decide +kernel
theorem dX6_misfitOfValue_0 : decode cX6_misfitOfValue 0 = .ok (.iload_n 0, 1) := by decide +kernel
theorem dX6_misfitOfValue_1 : decode cX6_misfitOfValue 1 = .ok (.bipush 8, 2) := by decide +kernel
theorem dX6_misfitOfValue_3 : decode cX6_misfitOfValue 3 = .ok (.invokestatic 69, 3) := by decide +kernel
theorem dX6_misfitOfValue_6 : decode cX6_misfitOfValue 6 = .ok (.ifCond .ne 5, 3) := by decide +kernel
theorem dX6_misfitOfValue_9 : decode cX6_misfitOfValue 9 = .ok (.iconst (-1), 1) := by decide +kernel
theorem dX6_misfitOfValue_10 : decode cX6_misfitOfValue 10 = .ok (.ireturn, 1) := by decide +kernel
theorem dX6_misfitOfValue_11 : decode cX6_misfitOfValue 11 = .ok (.iload_n 1, 1) := by decide +kernel
theorem dX6_misfitOfValue_12 : decode cX6_misfitOfValue 12 = .ok (.iconst 0, 1) := by decide +kernel
theorem dX6_misfitOfValue_13 : decode cX6_misfitOfValue 13 = .ok (.bipush 99, 2) := by decide +kernel
theorem dX6_misfitOfValue_15 : decode cX6_misfitOfValue 15 = .ok (.invokestatic 125, 3) := by decide +kernel
theorem dX6_misfitOfValue_18 : decode cX6_misfitOfValue 18 = .ok (.ireturn, 1) := by decide +kernel
theorem dX6_bounds_0 : decode cX6_bounds 0 = .ok (.aload_n 0, 1) := by decide +kernel
theorem dX6_bounds_1 : decode cX6_bounds 1 = .ok (.getfield 10, 3) := by decide +kernel
theorem dX6_bounds_4 : decode cX6_bounds 4 = .ok (.iload_n 1, 1) := by decide +kernel
theorem dX6_bounds_5 : decode cX6_bounds 5 = .ok (.invokevirtual 91, 3) := by decide +kernel
theorem dX6_bounds_8 : decode cX6_bounds 8 = .ok (.ifCond .ne 9, 3) := by decide +kernel
theorem dX6_bounds_11 : decode cX6_bounds 11 = .ok (.aload_n 0, 1) := by decide +kernel
theorem dX6_bounds_12 : decode cX6_bounds 12 = .ok (.iconst (-1), 1) := by decide +kernel
theorem dX6_bounds_13 : decode cX6_bounds 13 = .ok (.invokevirtual 73, 3) := by decide +kernel
theorem dX6_bounds_16 : decode cX6_bounds 16 = .ok (.ireturn, 1) := by decide +kernel
theorem dX6_bounds_17 : decode cX6_bounds 17 = .ok (.iload_n 2, 1) := by decide +kernel
theorem dX6_bounds_18 : decode cX6_bounds 18 = .ok (.ifCond .lt 7, 3) := by decide +kernel
theorem dX6_bounds_21 : decode cX6_bounds 21 = .ok (.iload_n 3, 1) := by decide +kernel
theorem dX6_bounds_22 : decode cX6_bounds 22 = .ok (.ifCond .ge 10, 3) := by decide +kernel
theorem dX6_bounds_25 : decode cX6_bounds 25 = .ok (.aload_n 0, 1) := by decide +kernel
theorem dX6_bounds_26 : decode cX6_bounds 26 = .ok (.bipush (-4), 2) := by decide +kernel
theorem dX6_bounds_28 : decode cX6_bounds 28 = .ok (.invokevirtual 73, 3) := by decide +kernel
theorem dX6_bounds_31 : decode cX6_bounds 31 = .ok (.ireturn, 1) := by decide +kernel
theorem dX6_bounds_32 : decode cX6_bounds 32 = .ok (.iload_n 2, 1) := by decide +kernel
theorem dX6_bounds_33 : decode cX6_bounds 33 = .ok (.bipush 99, 2) := by decide +kernel
theorem dX6_bounds_35 : decode cX6_bounds 35 = .ok (.if_icmp .gt 9, 3) := by decide +kernel
theorem dX6_bounds_38 : decode cX6_bounds 38 = .ok (.iload_n 3, 1) := by decide +kernel
theorem dX6_bounds_39 : decode cX6_bounds 39 = .ok (.bipush 99, 2) := by decide +kernel
theorem dX6_bounds_41 : decode cX6_bounds 41 = .ok (.if_icmp .le 10, 3) := by decide +kernel
theorem dX6_bounds_44 : decode cX6_bounds 44 = .ok (.aload_n 0, 1) := by decide +kernel
theorem dX6_bounds_45 : decode cX6_bounds 45 = .ok (.bipush (-6), 2) := by decide +kernel
theorem dX6_bounds_47 : decode cX6_bounds 47 = .ok (.invokevirtual 73, 3) := by decide +kernel
theorem dX6_bounds_50 : decode cX6_bounds 50 = .ok (.ireturn, 1) := by decide +kernel
theorem dX6_bounds_51 : decode cX6_bounds 51 = .ok (.aload_n 0, 1) := by decide +kernel
theorem dX6_bounds_52 : decode cX6_bounds 52 = .ok (.getfield 10, 3) := by decide +kernel
theorem dX6_bounds_55 : decode cX6_bounds 55 = .ok (.iload_n 1, 1) := by decide +kernel
theorem dX6_bounds_56 : decode cX6_bounds 56 = .ok (.iload_n 2, 1) := by decide +kernel
theorem dX6_bounds_57 : decode cX6_bounds 57 = .ok (.iload_n 3, 1) := by decide +kernel
theorem dX6_bounds_58 : decode cX6_bounds 58 = .ok (.invokevirtual 129, 3) := by decide +kernel
theorem dX6_bounds_61 : decode cX6_bounds 61 = .ok (.ifCond .eq 7, 3) := by decide +kernel
theorem dX6_bounds_64 : decode cX6_bounds 64 = .ok (.iconst 1, 1) := by decide +kernel
theorem dX6_bounds_65 : decode cX6_bounds 65 = .ok (.goto 9, 3) := by decide +kernel
theorem dX6_bounds_68 : decode cX6_bounds 68 = .ok (.aload_n 0, 1) := by decide +kernel
theorem dX6_bounds_69 : decode cX6_bounds 69 = .ok (.bipush (-3), 2) := by decide +kernel
theorem dX6_bounds_71 : decode cX6_bounds 71 = .ok (.invokevirtual 73, 3) := by decide +kernel
theorem dX6_bounds_74 : decode cX6_bounds 74 = .ok (.ireturn, 1) := by decide +kernel
theorem dX6_rule_0 : decode cX6_rule 0 = .ok (.aload_n 0, 1) := by decide +kernel
theorem dX6_rule_1 : decode cX6_rule 1 = .ok (.getfield 10, 3) := by decide +kernel
theorem dX6_rule_4 : decode cX6_rule 4 = .ok (.getfield 133, 3) := by decide +kernel
theorem dX6_rule_7 : decode cX6_rule 7 = .ok (.istore_n 2, 1) := by decide +kernel
theorem dX6_rule_8 : decode cX6_rule 8 = .ok (.aload_n 0, 1) := by decide +kernel
theorem dX6_rule_9 : decode cX6_rule 9 = .ok (.getfield 10, 3) := by decide +kernel
theorem dX6_rule_12 : decode cX6_rule 12 = .ok (.iload_n 1, 1) := by decide +kernel
theorem dX6_rule_13 : decode cX6_rule 13 = .ok (.invokevirtual 137, 3) := by decide +kernel
theorem dX6_rule_16 : decode cX6_rule 16 = .ok (.ifCond .eq 7, 3) := by decide +kernel
theorem dX6_rule_19 : decode cX6_rule 19 = .ok (.iload_n 2, 1) := by decide +kernel
theorem dX6_rule_20 : decode cX6_rule 20 = .ok (.goto 9, 3) := by decide +kernel
theorem dX6_rule_23 : decode cX6_rule 23 = .ok (.aload_n 0, 1) := by decide +kernel
theorem dX6_rule_24 : decode cX6_rule 24 = .ok (.bipush (-2), 2) := by decide +kernel
theorem dX6_rule_26 : decode cX6_rule 26 = .ok (.invokevirtual 73, 3) := by decide +kernel
theorem dX6_rule_29 : decode cX6_rule 29 = .ok (.ireturn, 1) := by decide +kernel
theorem dX6_limit_0 : decode cX6_limit 0 = .ok (.iload_n 1, 1) := by decide +kernel
theorem dX6_limit_1 : decode cX6_limit 1 = .ok (.iconst 0, 1) := by decide +kernel
theorem dX6_limit_2 : decode cX6_limit 2 = .ok (.bipush 10, 2) := by decide +kernel
theorem dX6_limit_4 : decode cX6_limit 4 = .ok (.invokestatic 125, 3) := by decide +kernel
theorem dX6_limit_7 : decode cX6_limit 7 = .ok (.istore_n 2, 1) := by decide +kernel
theorem dX6_limit_8 : decode cX6_limit 8 = .ok (.iload_n 2, 1) := by decide +kernel
theorem dX6_limit_9 : decode cX6_limit 9 = .ok (.ifCond .eq 9, 3) := by decide +kernel
theorem dX6_limit_12 : decode cX6_limit 12 = .ok (.aload_n 0, 1) := by decide +kernel
theorem dX6_limit_13 : decode cX6_limit 13 = .ok (.iload_n 2, 1) := by decide +kernel
theorem dX6_limit_14 : decode cX6_limit 14 = .ok (.invokevirtual 73, 3) := by decide +kernel
theorem dX6_limit_17 : decode cX6_limit 17 = .ok (.ireturn, 1) := by decide +kernel
theorem dX6_limit_18 : decode cX6_limit 18 = .ok (.aload_n 0, 1) := by decide +kernel
theorem dX6_limit_19 : decode cX6_limit 19 = .ok (.getfield 10, 3) := by decide +kernel
theorem dX6_limit_22 : decode cX6_limit 22 = .ok (.getfield 140, 3) := by decide +kernel
theorem dX6_limit_25 : decode cX6_limit 25 = .ok (.istore_n 3, 1) := by decide +kernel
theorem dX6_limit_26 : decode cX6_limit 26 = .ok (.aload_n 0, 1) := by decide +kernel
theorem dX6_limit_27 : decode cX6_limit 27 = .ok (.getfield 10, 3) := by decide +kernel
theorem dX6_limit_30 : decode cX6_limit 30 = .ok (.iload_n 1, 1) := by decide +kernel
theorem dX6_limit_31 : decode cX6_limit 31 = .ok (.invokevirtual 143, 3) := by decide +kernel
theorem dX6_limit_34 : decode cX6_limit 34 = .ok (.pop, 1) := by decide +kernel
theorem dX6_limit_35 : decode cX6_limit 35 = .ok (.iload_n 3, 1) := by decide +kernel
theorem dX6_limit_36 : decode cX6_limit 36 = .ok (.ireturn, 1) := by decide +kernel
theorem dX6_ask_0 : decode cX6_ask 0 = .ok (.iload_n 1, 1) := by decide +kernel
theorem dX6_ask_1 : decode cX6_ask 1 = .ok (.iload_n 2, 1) := by decide +kernel
theorem dX6_ask_2 : decode cX6_ask 2 = .ok (.iload_n 3, 1) := by decide +kernel
theorem dX6_ask_3 : decode cX6_ask 3 = .ok (.invokestatic 146, 3) := by decide +kernel
theorem dX6_ask_6 : decode cX6_ask 6 = .ok (.istore 4, 2) := by decide +kernel
theorem dX6_ask_8 : decode cX6_ask 8 = .ok (.iload 4, 2) := by decide +kernel
theorem dX6_ask_10 : decode cX6_ask 10 = .ok (.ifCond .eq 13, 3) := by decide +kernel
theorem dX6_ask_13 : decode cX6_ask 13 = .ok (.ldc 149, 2) := by decide +kernel
theorem dX6_ask_15 : decode cX6_ask 15 = .ok (.aload_n 0, 1) := by decide +kernel
theorem dX6_ask_16 : decode cX6_ask 16 = .ok (.iload 4, 2) := by decide +kernel
theorem dX6_ask_18 : decode cX6_ask 18 = .ok (.invokevirtual 73, 3) := by decide +kernel
theorem dX6_ask_21 : decode cX6_ask 21 = .ok (.isub, 1) := by decide +kernel
theorem dX6_ask_22 : decode cX6_ask 22 = .ok (.ireturn, 1) := by decide +kernel
theorem dX6_ask_23 : decode cX6_ask 23 = .ok (.aload_n 0, 1) := by decide +kernel
theorem dX6_ask_24 : decode cX6_ask 24 = .ok (.getfield 25, 3) := by decide +kernel
theorem dX6_ask_27 : decode cX6_ask 27 = .ok (.iload_n 1, 1) := by decide +kernel
theorem dX6_ask_28 : decode cX6_ask 28 = .ok (.iload_n 2, 1) := by decide +kernel
theorem dX6_ask_29 : decode cX6_ask 29 = .ok (.iload_n 3, 1) := by decide +kernel
theorem dX6_ask_30 : decode cX6_ask 30 = .ok (.invokevirtual 150, 3) := by decide +kernel
theorem dX6_ask_33 : decode cX6_ask 33 = .ok (.aload_n 0, 1) := by decide +kernel
theorem dX6_ask_34 : decode cX6_ask 34 = .ok (.getfield 10, 3) := by decide +kernel
theorem dX6_ask_37 : decode cX6_ask 37 = .ok (.aload_n 0, 1) := by decide +kernel
theorem dX6_ask_38 : decode cX6_ask 38 = .ok (.getfield 25, 3) := by decide +kernel
theorem dX6_ask_41 : decode cX6_ask 41 = .ok (.invokevirtual 154, 3) := by decide +kernel
theorem dX6_ask_44 : decode cX6_ask 44 = .ok (.iconst 2, 1) := by decide +kernel
theorem dX6_ask_45 : decode cX6_ask 45 = .ok (.if_icmp .ne 13, 3) := by decide +kernel
theorem dX6_ask_48 : decode cX6_ask 48 = .ok (.ldc 149, 2) := by decide +kernel
theorem dX6_ask_50 : decode cX6_ask 50 = .ok (.aload_n 0, 1) := by decide +kernel
theorem dX6_ask_51 : decode cX6_ask 51 = .ok (.bipush (-5), 2) := by decide +kernel
theorem dX6_ask_53 : decode cX6_ask 53 = .ok (.invokevirtual 73, 3) := by decide +kernel
theorem dX6_ask_56 : decode cX6_ask 56 = .ok (.isub, 1) := by decide +kernel
theorem dX6_ask_57 : decode cX6_ask 57 = .ok (.ireturn, 1) := by decide +kernel
theorem dX6_ask_58 : decode cX6_ask 58 = .ok (.aload_n 0, 1) := by decide +kernel
theorem dX6_ask_59 : decode cX6_ask 59 = .ok (.getfield 10, 3) := by decide +kernel
theorem dX6_ask_62 : decode cX6_ask 62 = .ok (.aload_n 0, 1) := by decide +kernel
theorem dX6_ask_63 : decode cX6_ask 63 = .ok (.getfield 25, 3) := by decide +kernel
theorem dX6_ask_66 : decode cX6_ask 66 = .ok (.invokevirtual 158, 3) := by decide +kernel
theorem dX6_ask_69 : decode cX6_ask 69 = .ok (.ireturn, 1) := by decide +kernel
theorem dX6_would_0 : decode cX6_would 0 = .ok (.iload_n 1, 1) := by decide +kernel
theorem dX6_would_1 : decode cX6_would 1 = .ok (.iload_n 2, 1) := by decide +kernel
theorem dX6_would_2 : decode cX6_would 2 = .ok (.iload_n 3, 1) := by decide +kernel
theorem dX6_would_3 : decode cX6_would 3 = .ok (.invokestatic 146, 3) := by decide +kernel
theorem dX6_would_6 : decode cX6_would 6 = .ok (.istore 4, 2) := by decide +kernel
theorem dX6_would_8 : decode cX6_would 8 = .ok (.iload 4, 2) := by decide +kernel
theorem dX6_would_10 : decode cX6_would 10 = .ok (.ifCond .eq 10, 3) := by decide +kernel
theorem dX6_would_13 : decode cX6_would 13 = .ok (.aload_n 0, 1) := by decide +kernel
theorem dX6_would_14 : decode cX6_would 14 = .ok (.iload 4, 2) := by decide +kernel
theorem dX6_would_16 : decode cX6_would 16 = .ok (.invokevirtual 73, 3) := by decide +kernel
theorem dX6_would_19 : decode cX6_would 19 = .ok (.ireturn, 1) := by decide +kernel
theorem dX6_would_20 : decode cX6_would 20 = .ok (.aload_n 0, 1) := by decide +kernel
theorem dX6_would_21 : decode cX6_would 21 = .ok (.getfield 25, 3) := by decide +kernel
theorem dX6_would_24 : decode cX6_would 24 = .ok (.iload_n 1, 1) := by decide +kernel
theorem dX6_would_25 : decode cX6_would 25 = .ok (.iload_n 2, 1) := by decide +kernel
theorem dX6_would_26 : decode cX6_would 26 = .ok (.iload_n 3, 1) := by decide +kernel
theorem dX6_would_27 : decode cX6_would 27 = .ok (.invokevirtual 150, 3) := by decide +kernel
theorem dX6_would_30 : decode cX6_would 30 = .ok (.aload_n 0, 1) := by decide +kernel
theorem dX6_would_31 : decode cX6_would 31 = .ok (.getfield 10, 3) := by decide +kernel
theorem dX6_would_34 : decode cX6_would 34 = .ok (.aload_n 0, 1) := by decide +kernel
theorem dX6_would_35 : decode cX6_would 35 = .ok (.getfield 25, 3) := by decide +kernel
theorem dX6_would_38 : decode cX6_would 38 = .ok (.aload_n 0, 1) := by decide +kernel
theorem dX6_would_39 : decode cX6_would 39 = .ok (.getfield 10, 3) := by decide +kernel
theorem dX6_would_42 : decode cX6_would 42 = .ok (.getfield 133, 3) := by decide +kernel
theorem dX6_would_45 : decode cX6_would 45 = .ok (.aload_n 0, 1) := by decide +kernel
theorem dX6_would_46 : decode cX6_would 46 = .ok (.getfield 10, 3) := by decide +kernel
theorem dX6_would_49 : decode cX6_would 49 = .ok (.getfield 140, 3) := by decide +kernel
theorem dX6_would_52 : decode cX6_would 52 = .ok (.invokevirtual 161, 3) := by decide +kernel
theorem dX6_would_55 : decode cX6_would 55 = .ok (.ireturn, 1) := by decide +kernel
theorem dX6_sums_0 : decode cX6_sums 0 = .ok (.iload_n 1, 1) := by decide +kernel
theorem dX6_sums_1 : decode cX6_sums 1 = .ok (.tableswitch 54 0 3 #[31, 36, 42, 48], 31) := by decide +kernel
theorem dX6_sums_32 : decode cX6_sums 32 = .ok (.aload_n 0, 1) := by decide +kernel
theorem dX6_sums_33 : decode cX6_sums 33 = .ok (.invokevirtual 165, 3) := by decide +kernel
theorem dX6_sums_36 : decode cX6_sums 36 = .ok (.ireturn, 1) := by decide +kernel
theorem dX6_sums_37 : decode cX6_sums 37 = .ok (.aload_n 0, 1) := by decide +kernel
theorem dX6_sums_38 : decode cX6_sums 38 = .ok (.iconst 1, 1) := by decide +kernel
theorem dX6_sums_39 : decode cX6_sums 39 = .ok (.invokevirtual 169, 3) := by decide +kernel
theorem dX6_sums_42 : decode cX6_sums 42 = .ok (.ireturn, 1) := by decide +kernel
theorem dX6_sums_43 : decode cX6_sums 43 = .ok (.aload_n 0, 1) := by decide +kernel
theorem dX6_sums_44 : decode cX6_sums 44 = .ok (.iconst 2, 1) := by decide +kernel
theorem dX6_sums_45 : decode cX6_sums 45 = .ok (.invokevirtual 169, 3) := by decide +kernel
theorem dX6_sums_48 : decode cX6_sums 48 = .ok (.ireturn, 1) := by decide +kernel
theorem dX6_sums_49 : decode cX6_sums 49 = .ok (.aload_n 0, 1) := by decide +kernel
theorem dX6_sums_50 : decode cX6_sums 50 = .ok (.iconst 0, 1) := by decide +kernel
theorem dX6_sums_51 : decode cX6_sums 51 = .ok (.invokevirtual 169, 3) := by decide +kernel
theorem dX6_sums_54 : decode cX6_sums 54 = .ok (.ireturn, 1) := by decide +kernel
theorem dX6_sums_55 : decode cX6_sums 55 = .ok (.aload_n 0, 1) := by decide +kernel
theorem dX6_sums_56 : decode cX6_sums 56 = .ok (.bipush (-2), 2) := by decide +kernel
theorem dX6_sums_58 : decode cX6_sums 58 = .ok (.invokevirtual 73, 3) := by decide +kernel
theorem dX6_sums_61 : decode cX6_sums 61 = .ok (.ireturn, 1) := by decide +kernel
theorem dX6_leastJoining_0 : decode cX6_leastJoining 0 = .ok (.iconst 1, 1) := by decide +kernel
theorem dX6_leastJoining_1 : decode cX6_leastJoining 1 = .ok (.istore_n 1, 1) := by decide +kernel
theorem dX6_leastJoining_2 : decode cX6_leastJoining 2 = .ok (.iload_n 1, 1) := by decide +kernel
theorem dX6_leastJoining_3 : decode cX6_leastJoining 3 = .ok (.sipush 255, 3) := by decide +kernel
theorem dX6_leastJoining_6 : decode cX6_leastJoining 6 = .ok (.if_icmp .gt 24, 3) := by decide +kernel
theorem dX6_leastJoining_9 : decode cX6_leastJoining 9 = .ok (.aload_n 0, 1) := by decide +kernel
theorem dX6_leastJoining_10 : decode cX6_leastJoining 10 = .ok (.aload_n 0, 1) := by decide +kernel
theorem dX6_leastJoining_11 : decode cX6_leastJoining 11 = .ok (.getfield 10, 3) := by decide +kernel
theorem dX6_leastJoining_14 : decode cX6_leastJoining 14 = .ok (.iload_n 1, 1) := by decide +kernel
theorem dX6_leastJoining_15 : decode cX6_leastJoining 15 = .ok (.invokevirtual 172, 3) := by decide +kernel
theorem dX6_leastJoining_18 : decode cX6_leastJoining 18 = .ok (.iconst 1, 1) := by decide +kernel
theorem dX6_leastJoining_19 : decode cX6_leastJoining 19 = .ok (.if_icmp .ne 5, 3) := by decide +kernel
theorem dX6_leastJoining_22 : decode cX6_leastJoining 22 = .ok (.iload_n 1, 1) := by decide +kernel
theorem dX6_leastJoining_23 : decode cX6_leastJoining 23 = .ok (.ireturn, 1) := by decide +kernel
theorem dX6_leastJoining_24 : decode cX6_leastJoining 24 = .ok (.iinc 1 1, 3) := by decide +kernel
theorem dX6_leastJoining_27 : decode cX6_leastJoining 27 = .ok (.goto (-25), 3) := by decide +kernel
theorem dX6_leastJoining_30 : decode cX6_leastJoining 30 = .ok (.bipush (-9), 2) := by decide +kernel
theorem dX6_leastJoining_32 : decode cX6_leastJoining 32 = .ok (.ireturn, 1) := by decide +kernel
theorem dX6_howMany_0 : decode cX6_howMany 0 = .ok (.iconst 0, 1) := by decide +kernel
theorem dX6_howMany_1 : decode cX6_howMany 1 = .ok (.istore_n 2, 1) := by decide +kernel
theorem dX6_howMany_2 : decode cX6_howMany 2 = .ok (.iconst 1, 1) := by decide +kernel
theorem dX6_howMany_3 : decode cX6_howMany 3 = .ok (.istore_n 3, 1) := by decide +kernel
theorem dX6_howMany_4 : decode cX6_howMany 4 = .ok (.iload_n 3, 1) := by decide +kernel
theorem dX6_howMany_5 : decode cX6_howMany 5 = .ok (.sipush 255, 3) := by decide +kernel
theorem dX6_howMany_8 : decode cX6_howMany 8 = .ok (.if_icmp .gt 25, 3) := by decide +kernel
theorem dX6_howMany_11 : decode cX6_howMany 11 = .ok (.aload_n 0, 1) := by decide +kernel
theorem dX6_howMany_12 : decode cX6_howMany 12 = .ok (.aload_n 0, 1) := by decide +kernel
theorem dX6_howMany_13 : decode cX6_howMany 13 = .ok (.getfield 10, 3) := by decide +kernel
theorem dX6_howMany_16 : decode cX6_howMany 16 = .ok (.iload_n 3, 1) := by decide +kernel
theorem dX6_howMany_17 : decode cX6_howMany 17 = .ok (.invokevirtual 172, 3) := by decide +kernel
theorem dX6_howMany_20 : decode cX6_howMany 20 = .ok (.iload_n 1, 1) := by decide +kernel
theorem dX6_howMany_21 : decode cX6_howMany 21 = .ok (.if_icmp .ne 6, 3) := by decide +kernel
theorem dX6_howMany_24 : decode cX6_howMany 24 = .ok (.iinc 2 1, 3) := by decide +kernel
theorem dX6_howMany_27 : decode cX6_howMany 27 = .ok (.iinc 3 1, 3) := by decide +kernel
theorem dX6_howMany_30 : decode cX6_howMany 30 = .ok (.goto (-26), 3) := by decide +kernel
theorem dX6_howMany_33 : decode cX6_howMany 33 = .ok (.iload_n 2, 1) := by decide +kernel
theorem dX6_howMany_34 : decode cX6_howMany 34 = .ok (.ireturn, 1) := by decide +kernel
theorem dX6_meetingOfSum_0 : decode cX6_meetingOfSum 0 = .ok (.aload_n 0, 1) := by decide +kernel
theorem dX6_meetingOfSum_1 : decode cX6_meetingOfSum 1 = .ok (.getfield 25, 3) := by decide +kernel
theorem dX6_meetingOfSum_4 : decode cX6_meetingOfSum 4 = .ok (.iconst 0, 1) := by decide +kernel
theorem dX6_meetingOfSum_5 : decode cX6_meetingOfSum 5 = .ok (.iload_n 2, 1) := by decide +kernel
theorem dX6_meetingOfSum_6 : decode cX6_meetingOfSum 6 = .ok (.iconst 0, 1) := by decide +kernel
theorem dX6_meetingOfSum_7 : decode cX6_meetingOfSum 7 = .ok (.invokevirtual 150, 3) := by decide +kernel
theorem dX6_meetingOfSum_10 : decode cX6_meetingOfSum 10 = .ok (.aload_n 1, 1) := by decide +kernel
theorem dX6_meetingOfSum_11 : decode cX6_meetingOfSum 11 = .ok (.aload_n 0, 1) := by decide +kernel
theorem dX6_meetingOfSum_12 : decode cX6_meetingOfSum 12 = .ok (.getfield 25, 3) := by decide +kernel
theorem dX6_meetingOfSum_15 : decode cX6_meetingOfSum 15 = .ok (.aload_n 1, 1) := by decide +kernel
theorem dX6_meetingOfSum_16 : decode cX6_meetingOfSum 16 = .ok (.getfield 133, 3) := by decide +kernel
theorem dX6_meetingOfSum_19 : decode cX6_meetingOfSum 19 = .ok (.aload_n 1, 1) := by decide +kernel
theorem dX6_meetingOfSum_20 : decode cX6_meetingOfSum 20 = .ok (.getfield 140, 3) := by decide +kernel
theorem dX6_meetingOfSum_23 : decode cX6_meetingOfSum 23 = .ok (.invokevirtual 161, 3) := by decide +kernel
theorem dX6_meetingOfSum_26 : decode cX6_meetingOfSum 26 = .ok (.ireturn, 1) := by decide +kernel
theorem dX6_takeSum_0 : decode cX6_takeSum 0 = .ok (.aload_n 0, 1) := by decide +kernel
theorem dX6_takeSum_1 : decode cX6_takeSum 1 = .ok (.getfield 25, 3) := by decide +kernel
theorem dX6_takeSum_4 : decode cX6_takeSum 4 = .ok (.iconst 0, 1) := by decide +kernel
theorem dX6_takeSum_5 : decode cX6_takeSum 5 = .ok (.iload_n 2, 1) := by decide +kernel
theorem dX6_takeSum_6 : decode cX6_takeSum 6 = .ok (.iconst 0, 1) := by decide +kernel
theorem dX6_takeSum_7 : decode cX6_takeSum 7 = .ok (.invokevirtual 150, 3) := by decide +kernel
theorem dX6_takeSum_10 : decode cX6_takeSum 10 = .ok (.aload_n 1, 1) := by decide +kernel
theorem dX6_takeSum_11 : decode cX6_takeSum 11 = .ok (.aload_n 0, 1) := by decide +kernel
theorem dX6_takeSum_12 : decode cX6_takeSum 12 = .ok (.getfield 25, 3) := by decide +kernel
theorem dX6_takeSum_15 : decode cX6_takeSum 15 = .ok (.invokevirtual 154, 3) := by decide +kernel
theorem dX6_takeSum_18 : decode cX6_takeSum 18 = .ok (.ireturn, 1) := by decide +kernel
theorem dX6_ledger_0 : decode cX6_ledger 0 = .ok (.iload_n 1, 1) := by decide +kernel
theorem dX6_ledger_1 : decode cX6_ledger 1 = .ok (.aload_n 0, 1) := by decide +kernel
theorem dX6_ledger_2 : decode cX6_ledger 2 = .ok (.getfield 10, 3) := by decide +kernel
theorem dX6_ledger_5 : decode cX6_ledger 5 = .ok (.getfield 176, 3) := by decide +kernel
theorem dX6_ledger_8 : decode cX6_ledger 8 = .ok (.invokestatic 69, 3) := by decide +kernel
theorem dX6_ledger_11 : decode cX6_ledger 11 = .ok (.ifCond .eq 14, 3) := by decide +kernel
theorem dX6_ledger_14 : decode cX6_ledger 14 = .ok (.aload_n 0, 1) := by decide +kernel
theorem dX6_ledger_15 : decode cX6_ledger 15 = .ok (.getfield 10, 3) := by decide +kernel
theorem dX6_ledger_18 : decode cX6_ledger 18 = .ok (.iload_n 2, 1) := by decide +kernel
theorem dX6_ledger_19 : decode cX6_ledger 19 = .ok (.invokevirtual 91, 3) := by decide +kernel
theorem dX6_ledger_22 : decode cX6_ledger 22 = .ok (.ifCond .ne 9, 3) := by decide +kernel
theorem dX6_ledger_25 : decode cX6_ledger 25 = .ok (.aload_n 0, 1) := by decide +kernel
theorem dX6_ledger_26 : decode cX6_ledger 26 = .ok (.iconst (-1), 1) := by decide +kernel
theorem dX6_ledger_27 : decode cX6_ledger 27 = .ok (.invokevirtual 73, 3) := by decide +kernel
theorem dX6_ledger_30 : decode cX6_ledger 30 = .ok (.ireturn, 1) := by decide +kernel
theorem dX6_ledger_31 : decode cX6_ledger 31 = .ok (.bipush 100, 2) := by decide +kernel
theorem dX6_ledger_33 : decode cX6_ledger 33 = .ok (.aload_n 0, 1) := by decide +kernel
theorem dX6_ledger_34 : decode cX6_ledger 34 = .ok (.getfield 10, 3) := by decide +kernel
theorem dX6_ledger_37 : decode cX6_ledger 37 = .ok (.iload_n 1, 1) := by decide +kernel
theorem dX6_ledger_38 : decode cX6_ledger 38 = .ok (.iload_n 2, 1) := by decide +kernel
theorem dX6_ledger_39 : decode cX6_ledger 39 = .ok (.invokevirtual 179, 3) := by decide +kernel
theorem dX6_ledger_42 : decode cX6_ledger 42 = .ok (.iadd, 1) := by decide +kernel
theorem dX6_ledger_43 : decode cX6_ledger 43 = .ok (.ireturn, 1) := by decide +kernel
theorem dX6_answer_0 : decode cX6_answer 0 = .ok (.iload_n 1, 1) := by decide +kernel
theorem dX6_answer_1 : decode cX6_answer 1 = .ok (.aload_n 0, 1) := by decide +kernel
theorem dX6_answer_2 : decode cX6_answer 2 = .ok (.getfield 10, 3) := by decide +kernel
theorem dX6_answer_5 : decode cX6_answer 5 = .ok (.getfield 176, 3) := by decide +kernel
theorem dX6_answer_8 : decode cX6_answer 8 = .ok (.invokestatic 69, 3) := by decide +kernel
theorem dX6_answer_11 : decode cX6_answer 11 = .ok (.ifCond .ne 14, 3) := by decide +kernel
theorem dX6_answer_14 : decode cX6_answer 14 = .ok (.ldc2_w 182, 3) := by decide +kernel
theorem dX6_answer_17 : decode cX6_answer 17 = .ok (.aload_n 0, 1) := by decide +kernel
theorem dX6_answer_18 : decode cX6_answer 18 = .ok (.iconst (-1), 1) := by decide +kernel
theorem dX6_answer_19 : decode cX6_answer 19 = .ok (.invokevirtual 73, 3) := by decide +kernel
theorem dX6_answer_22 : decode cX6_answer 22 = .ok (.i2l, 1) := by decide +kernel
theorem dX6_answer_23 : decode cX6_answer 23 = .ok (.lsub, 1) := by decide +kernel
theorem dX6_answer_24 : decode cX6_answer 24 = .ok (.lreturn, 1) := by decide +kernel
theorem dX6_answer_25 : decode cX6_answer 25 = .ok (.aload_n 0, 1) := by decide +kernel
theorem dX6_answer_26 : decode cX6_answer 26 = .ok (.getfield 10, 3) := by decide +kernel
theorem dX6_answer_29 : decode cX6_answer 29 = .ok (.iload_n 1, 1) := by decide +kernel
theorem dX6_answer_30 : decode cX6_answer 30 = .ok (.invokevirtual 184, 3) := by decide +kernel
theorem dX6_answer_33 : decode cX6_answer 33 = .ok (.i2l, 1) := by decide +kernel
theorem dX6_answer_34 : decode cX6_answer 34 = .ok (.lreturn, 1) := by decide +kernel
theorem dX6_reduced_0 : decode cX6_reduced 0 = .ok (.iload_n 1, 1) := by decide +kernel
theorem dX6_reduced_1 : decode cX6_reduced 1 = .ok (.aload_n 0, 1) := by decide +kernel
theorem dX6_reduced_2 : decode cX6_reduced 2 = .ok (.getfield 10, 3) := by decide +kernel
theorem dX6_reduced_5 : decode cX6_reduced 5 = .ok (.getfield 176, 3) := by decide +kernel
theorem dX6_reduced_8 : decode cX6_reduced 8 = .ok (.invokestatic 69, 3) := by decide +kernel
theorem dX6_reduced_11 : decode cX6_reduced 11 = .ok (.ifCond .eq 14, 3) := by decide +kernel
theorem dX6_reduced_14 : decode cX6_reduced 14 = .ok (.aload_n 0, 1) := by decide +kernel
theorem dX6_reduced_15 : decode cX6_reduced 15 = .ok (.getfield 10, 3) := by decide +kernel
theorem dX6_reduced_18 : decode cX6_reduced 18 = .ok (.iload_n 2, 1) := by decide +kernel
theorem dX6_reduced_19 : decode cX6_reduced 19 = .ok (.invokevirtual 91, 3) := by decide +kernel
theorem dX6_reduced_22 : decode cX6_reduced 22 = .ok (.ifCond .ne 14, 3) := by decide +kernel
theorem dX6_reduced_25 : decode cX6_reduced 25 = .ok (.ldc2_w 182, 3) := by decide +kernel
theorem dX6_reduced_28 : decode cX6_reduced 28 = .ok (.aload_n 0, 1) := by decide +kernel
theorem dX6_reduced_29 : decode cX6_reduced 29 = .ok (.iconst (-1), 1) := by decide +kernel
theorem dX6_reduced_30 : decode cX6_reduced 30 = .ok (.invokevirtual 73, 3) := by decide +kernel
theorem dX6_reduced_33 : decode cX6_reduced 33 = .ok (.i2l, 1) := by decide +kernel
theorem dX6_reduced_34 : decode cX6_reduced 34 = .ok (.lsub, 1) := by decide +kernel
theorem dX6_reduced_35 : decode cX6_reduced 35 = .ok (.lreturn, 1) := by decide +kernel
theorem dX6_reduced_36 : decode cX6_reduced 36 = .ok (.iload_n 3, 1) := by decide +kernel
theorem dX6_reduced_37 : decode cX6_reduced 37 = .ok (.iconst 2, 1) := by decide +kernel
theorem dX6_reduced_38 : decode cX6_reduced 38 = .ok (.invokestatic 69, 3) := by decide +kernel
theorem dX6_reduced_41 : decode cX6_reduced 41 = .ok (.ifCond .ne 15, 3) := by decide +kernel
theorem dX6_reduced_44 : decode cX6_reduced 44 = .ok (.ldc2_w 182, 3) := by decide +kernel
theorem dX6_reduced_47 : decode cX6_reduced 47 = .ok (.aload_n 0, 1) := by decide +kernel
theorem dX6_reduced_48 : decode cX6_reduced 48 = .ok (.bipush (-2), 2) := by decide +kernel
theorem dX6_reduced_50 : decode cX6_reduced 50 = .ok (.invokevirtual 73, 3) := by decide +kernel
theorem dX6_reduced_53 : decode cX6_reduced 53 = .ok (.i2l, 1) := by decide +kernel
theorem dX6_reduced_54 : decode cX6_reduced 54 = .ok (.lsub, 1) := by decide +kernel
theorem dX6_reduced_55 : decode cX6_reduced 55 = .ok (.lreturn, 1) := by decide +kernel
theorem dX6_reduced_56 : decode cX6_reduced 56 = .ok (.aload_n 0, 1) := by decide +kernel
theorem dX6_reduced_57 : decode cX6_reduced 57 = .ok (.getfield 10, 3) := by decide +kernel
theorem dX6_reduced_60 : decode cX6_reduced 60 = .ok (.getfield 187, 3) := by decide +kernel
theorem dX6_reduced_63 : decode cX6_reduced 63 = .ok (.iload_n 1, 1) := by decide +kernel
theorem dX6_reduced_64 : decode cX6_reduced 64 = .ok (.iload_n 2, 1) := by decide +kernel
theorem dX6_reduced_65 : decode cX6_reduced 65 = .ok (.iload_n 3, 1) := by decide +kernel
theorem dX6_reduced_66 : decode cX6_reduced 66 = .ok (.invokevirtual 191, 3) := by decide +kernel
theorem dX6_reduced_69 : decode cX6_reduced 69 = .ok (.lreturn, 1) := by decide +kernel
theorem dX6_pivots_0 : decode cX6_pivots 0 = .ok (.aload_n 0, 1) := by decide +kernel
theorem dX6_pivots_1 : decode cX6_pivots 1 = .ok (.getfield 10, 3) := by decide +kernel
theorem dX6_pivots_4 : decode cX6_pivots 4 = .ok (.getfield 187, 3) := by decide +kernel
theorem dX6_pivots_7 : decode cX6_pivots 7 = .ok (.getfield 197, 3) := by decide +kernel
theorem dX6_pivots_10 : decode cX6_pivots 10 = .ok (.ireturn, 1) := by decide +kernel
theorem dX6_attack_0 : decode cX6_attack 0 = .ok (.aload_n 0, 1) := by decide +kernel
theorem dX6_attack_1 : decode cX6_attack 1 = .ok (.getfield 10, 3) := by decide +kernel
theorem dX6_attack_4 : decode cX6_attack 4 = .ok (.iload_n 1, 1) := by decide +kernel
theorem dX6_attack_5 : decode cX6_attack 5 = .ok (.invokevirtual 91, 3) := by decide +kernel
theorem dX6_attack_8 : decode cX6_attack 8 = .ok (.ifCond .ne 9, 3) := by decide +kernel
theorem dX6_attack_11 : decode cX6_attack 11 = .ok (.aload_n 0, 1) := by decide +kernel
theorem dX6_attack_12 : decode cX6_attack 12 = .ok (.iconst (-1), 1) := by decide +kernel
theorem dX6_attack_13 : decode cX6_attack 13 = .ok (.invokevirtual 73, 3) := by decide +kernel
theorem dX6_attack_16 : decode cX6_attack 16 = .ok (.ireturn, 1) := by decide +kernel
theorem dX6_attack_17 : decode cX6_attack 17 = .ok (.iload_n 2, 1) := by decide +kernel
theorem dX6_attack_18 : decode cX6_attack 18 = .ok (.iconst 2, 1) := by decide +kernel
theorem dX6_attack_19 : decode cX6_attack 19 = .ok (.invokestatic 69, 3) := by decide +kernel
theorem dX6_attack_22 : decode cX6_attack 22 = .ok (.ifCond .ne 10, 3) := by decide +kernel
theorem dX6_attack_25 : decode cX6_attack 25 = .ok (.aload_n 0, 1) := by decide +kernel
theorem dX6_attack_26 : decode cX6_attack 26 = .ok (.bipush (-2), 2) := by decide +kernel
theorem dX6_attack_28 : decode cX6_attack 28 = .ok (.invokevirtual 73, 3) := by decide +kernel
theorem dX6_attack_31 : decode cX6_attack 31 = .ok (.ireturn, 1) := by decide +kernel
theorem dX6_attack_32 : decode cX6_attack 32 = .ok (.bipush (-9), 2) := by decide +kernel
theorem dX6_attack_34 : decode cX6_attack 34 = .ok (.istore_n 3, 1) := by decide +kernel
theorem dX6_attack_35 : decode cX6_attack 35 = .ok (.iconst 0, 1) := by decide +kernel
theorem dX6_attack_36 : decode cX6_attack 36 = .ok (.istore 4, 2) := by decide +kernel
theorem dX6_attack_38 : decode cX6_attack 38 = .ok (.sipush 255, 3) := by decide +kernel
theorem dX6_attack_41 : decode cX6_attack 41 = .ok (.istore 5, 2) := by decide +kernel
theorem dX6_attack_43 : decode cX6_attack 43 = .ok (.iload 5, 2) := by decide +kernel
theorem dX6_attack_45 : decode cX6_attack 45 = .ok (.iconst 1, 1) := by decide +kernel
theorem dX6_attack_46 : decode cX6_attack 46 = .ok (.if_icmp .lt 45, 3) := by decide +kernel
theorem dX6_attack_49 : decode cX6_attack 49 = .ok (.aload_n 0, 1) := by decide +kernel
theorem dX6_attack_50 : decode cX6_attack 50 = .ok (.getfield 25, 3) := by decide +kernel
theorem dX6_attack_53 : decode cX6_attack 53 = .ok (.iconst 0, 1) := by decide +kernel
theorem dX6_attack_54 : decode cX6_attack 54 = .ok (.iload 5, 2) := by decide +kernel
theorem dX6_attack_56 : decode cX6_attack 56 = .ok (.iconst 0, 1) := by decide +kernel
theorem dX6_attack_57 : decode cX6_attack 57 = .ok (.invokevirtual 150, 3) := by decide +kernel
theorem dX6_attack_60 : decode cX6_attack 60 = .ok (.aload_n 0, 1) := by decide +kernel
theorem dX6_attack_61 : decode cX6_attack 61 = .ok (.getfield 10, 3) := by decide +kernel
theorem dX6_attack_64 : decode cX6_attack 64 = .ok (.aload_n 0, 1) := by decide +kernel
theorem dX6_attack_65 : decode cX6_attack 65 = .ok (.getfield 25, 3) := by decide +kernel
theorem dX6_attack_68 : decode cX6_attack 68 = .ok (.invokevirtual 200, 3) := by decide +kernel
theorem dX6_attack_71 : decode cX6_attack 71 = .ok (.iload_n 1, 1) := by decide +kernel
theorem dX6_attack_72 : decode cX6_attack 72 = .ok (.ishr, 1) := by decide +kernel
theorem dX6_attack_73 : decode cX6_attack 73 = .ok (.iconst 1, 1) := by decide +kernel
theorem dX6_attack_74 : decode cX6_attack 74 = .ok (.iand, 1) := by decide +kernel
theorem dX6_attack_75 : decode cX6_attack 75 = .ok (.iconst 1, 1) := by decide +kernel
theorem dX6_attack_76 : decode cX6_attack 76 = .ok (.if_icmp .ne 9, 3) := by decide +kernel
theorem dX6_attack_79 : decode cX6_attack 79 = .ok (.iload 5, 2) := by decide +kernel
theorem dX6_attack_81 : decode cX6_attack 81 = .ok (.istore_n 3, 1) := by decide +kernel
theorem dX6_attack_82 : decode cX6_attack 82 = .ok (.iinc 4 1, 3) := by decide +kernel
theorem dX6_attack_85 : decode cX6_attack 85 = .ok (.iinc 5 (-1), 3) := by decide +kernel
theorem dX6_attack_88 : decode cX6_attack 88 = .ok (.goto (-45), 3) := by decide +kernel
theorem dX6_attack_91 : decode cX6_attack 91 = .ok (.iload_n 2, 1) := by decide +kernel
theorem dX6_attack_92 : decode cX6_attack 92 = .ok (.ifCond .ne 7, 3) := by decide +kernel
theorem dX6_attack_95 : decode cX6_attack 95 = .ok (.iload_n 3, 1) := by decide +kernel
theorem dX6_attack_96 : decode cX6_attack 96 = .ok (.goto 5, 3) := by decide +kernel
theorem dX6_attack_99 : decode cX6_attack 99 = .ok (.iload 4, 2) := by decide +kernel
theorem dX6_attack_101 : decode cX6_attack 101 = .ok (.ireturn, 1) := by decide +kernel
theorem dX6_known_0 : decode cX6_known 0 = .ok (.aload_n 0, 1) := by decide +kernel
theorem dX6_known_1 : decode cX6_known 1 = .ok (.getfield 32, 3) := by decide +kernel
theorem dX6_known_4 : decode cX6_known 4 = .ok (.aload_n 0, 1) := by decide +kernel
theorem dX6_known_5 : decode cX6_known 5 = .ok (.getfield 10, 3) := by decide +kernel
theorem dX6_known_8 : decode cX6_known 8 = .ok (.invokevirtual 104, 3) := by decide +kernel
theorem dX6_known_11 : decode cX6_known 11 = .ok (.aload_n 0, 1) := by decide +kernel
theorem dX6_known_12 : decode cX6_known 12 = .ok (.getfield 32, 3) := by decide +kernel
theorem dX6_known_15 : decode cX6_known 15 = .ok (.invokevirtual 203, 3) := by decide +kernel
theorem dX6_known_18 : decode cX6_known 18 = .ok (.ireturn, 1) := by decide +kernel
theorem dX6_learns_0 : decode cX6_learns 0 = .ok (.iload_n 1, 1) := by decide +kernel
theorem dX6_learns_1 : decode cX6_learns 1 = .ok (.iload_n 2, 1) := by decide +kernel
theorem dX6_learns_2 : decode cX6_learns 2 = .ok (.iload_n 3, 1) := by decide +kernel
theorem dX6_learns_3 : decode cX6_learns 3 = .ok (.invokestatic 146, 3) := by decide +kernel
theorem dX6_learns_6 : decode cX6_learns 6 = .ok (.istore 5, 2) := by decide +kernel
theorem dX6_learns_8 : decode cX6_learns 8 = .ok (.iload 5, 2) := by decide +kernel
theorem dX6_learns_10 : decode cX6_learns 10 = .ok (.ifCond .eq 10, 3) := by decide +kernel
theorem dX6_learns_13 : decode cX6_learns 13 = .ok (.aload_n 0, 1) := by decide +kernel
theorem dX6_learns_14 : decode cX6_learns 14 = .ok (.iload 5, 2) := by decide +kernel
theorem dX6_learns_16 : decode cX6_learns 16 = .ok (.invokevirtual 73, 3) := by decide +kernel
theorem dX6_learns_19 : decode cX6_learns 19 = .ok (.ireturn, 1) := by decide +kernel
theorem dX6_learns_20 : decode cX6_learns 20 = .ok (.iload 4, 2) := by decide +kernel
theorem dX6_learns_22 : decode cX6_learns 22 = .ok (.iconst 3, 1) := by decide +kernel
theorem dX6_learns_23 : decode cX6_learns 23 = .ok (.invokestatic 69, 3) := by decide +kernel
theorem dX6_learns_26 : decode cX6_learns 26 = .ok (.ifCond .ne 10, 3) := by decide +kernel
theorem dX6_learns_29 : decode cX6_learns 29 = .ok (.aload_n 0, 1) := by decide +kernel
theorem dX6_learns_30 : decode cX6_learns 30 = .ok (.bipush (-2), 2) := by decide +kernel
theorem dX6_learns_32 : decode cX6_learns 32 = .ok (.invokevirtual 73, 3) := by decide +kernel
theorem dX6_learns_35 : decode cX6_learns 35 = .ok (.ireturn, 1) := by decide +kernel
theorem dX6_learns_36 : decode cX6_learns 36 = .ok (.aload_n 0, 1) := by decide +kernel
theorem dX6_learns_37 : decode cX6_learns 37 = .ok (.getfield 16, 3) := by decide +kernel
theorem dX6_learns_40 : decode cX6_learns 40 = .ok (.aload_n 0, 1) := by decide +kernel
theorem dX6_learns_41 : decode cX6_learns 41 = .ok (.getfield 10, 3) := by decide +kernel
theorem dX6_learns_44 : decode cX6_learns 44 = .ok (.invokevirtual 56, 3) := by decide +kernel
theorem dX6_learns_47 : decode cX6_learns 47 = .ok (.aload_n 0, 1) := by decide +kernel
theorem dX6_learns_48 : decode cX6_learns 48 = .ok (.getfield 25, 3) := by decide +kernel
theorem dX6_learns_51 : decode cX6_learns 51 = .ok (.iload_n 1, 1) := by decide +kernel
theorem dX6_learns_52 : decode cX6_learns 52 = .ok (.iload_n 2, 1) := by decide +kernel
theorem dX6_learns_53 : decode cX6_learns 53 = .ok (.iload_n 3, 1) := by decide +kernel
theorem dX6_learns_54 : decode cX6_learns 54 = .ok (.invokevirtual 150, 3) := by decide +kernel
theorem dX6_learns_57 : decode cX6_learns 57 = .ok (.aload_n 0, 1) := by decide +kernel
theorem dX6_learns_58 : decode cX6_learns 58 = .ok (.getfield 16, 3) := by decide +kernel
theorem dX6_learns_61 : decode cX6_learns 61 = .ok (.aload_n 0, 1) := by decide +kernel
theorem dX6_learns_62 : decode cX6_learns 62 = .ok (.getfield 25, 3) := by decide +kernel
theorem dX6_learns_65 : decode cX6_learns 65 = .ok (.invokevirtual 206, 3) := by decide +kernel
theorem dX6_learns_68 : decode cX6_learns 68 = .ok (.aload_n 0, 1) := by decide +kernel
theorem dX6_learns_69 : decode cX6_learns 69 = .ok (.getfield 32, 3) := by decide +kernel
theorem dX6_learns_72 : decode cX6_learns 72 = .ok (.aload_n 0, 1) := by decide +kernel
theorem dX6_learns_73 : decode cX6_learns 73 = .ok (.getfield 16, 3) := by decide +kernel
theorem dX6_learns_76 : decode cX6_learns 76 = .ok (.invokevirtual 104, 3) := by decide +kernel
theorem dX6_learns_79 : decode cX6_learns 79 = .ok (.aload_n 0, 1) := by decide +kernel
theorem dX6_learns_80 : decode cX6_learns 80 = .ok (.getfield 32, 3) := by decide +kernel
theorem dX6_learns_83 : decode cX6_learns 83 = .ok (.invokevirtual 210, 3) := by decide +kernel
theorem dX6_learns_86 : decode cX6_learns 86 = .ok (.istore 6, 2) := by decide +kernel
theorem dX6_learns_88 : decode cX6_learns 88 = .ok (.iload 4, 2) := by decide +kernel
theorem dX6_learns_90 : decode cX6_learns 90 = .ok (.ifCond .ne 15, 3) := by decide +kernel
theorem dX6_learns_93 : decode cX6_learns 93 = .ok (.aload_n 0, 1) := by decide +kernel
theorem dX6_learns_94 : decode cX6_learns 94 = .ok (.getfield 32, 3) := by decide +kernel
theorem dX6_learns_97 : decode cX6_learns 97 = .ok (.iload 6, 2) := by decide +kernel
theorem dX6_learns_99 : decode cX6_learns 99 = .ok (.invokevirtual 113, 3) := by decide +kernel
theorem dX6_learns_102 : decode cX6_learns 102 = .ok (.goto 24, 3) := by decide +kernel
theorem dX6_learns_105 : decode cX6_learns 105 = .ok (.iload 4, 2) := by decide +kernel
theorem dX6_learns_107 : decode cX6_learns 107 = .ok (.iconst 1, 1) := by decide +kernel
theorem dX6_learns_108 : decode cX6_learns 108 = .ok (.if_icmp .ne 8, 3) := by decide +kernel
theorem dX6_learns_111 : decode cX6_learns 111 = .ok (.iload 6, 2) := by decide +kernel
theorem dX6_learns_113 : decode cX6_learns 113 = .ok (.goto 13, 3) := by decide +kernel
theorem dX6_learns_116 : decode cX6_learns 116 = .ok (.aload_n 0, 1) := by decide +kernel
theorem dX6_learns_117 : decode cX6_learns 117 = .ok (.getfield 32, 3) := by decide +kernel
theorem dX6_learns_120 : decode cX6_learns 120 = .ok (.invokevirtual 203, 3) := by decide +kernel
theorem dX6_learns_123 : decode cX6_learns 123 = .ok (.invokestatic 213, 3) := by decide +kernel
theorem dX6_learns_126 : decode cX6_learns 126 = .ok (.ireturn, 1) := by decide +kernel
theorem dX6_mean_0 : decode cX6_mean 0 = .ok (.iload_n 1, 1) := by decide +kernel
theorem dX6_mean_1 : decode cX6_mean 1 = .ok (.iconst 2, 1) := by decide +kernel
theorem dX6_mean_2 : decode cX6_mean 2 = .ok (.invokestatic 69, 3) := by decide +kernel
theorem dX6_mean_5 : decode cX6_mean 5 = .ok (.ifCond .ne 15, 3) := by decide +kernel
theorem dX6_mean_8 : decode cX6_mean 8 = .ok (.ldc2_w 182, 3) := by decide +kernel
theorem dX6_mean_11 : decode cX6_mean 11 = .ok (.aload_n 0, 1) := by decide +kernel
theorem dX6_mean_12 : decode cX6_mean 12 = .ok (.bipush (-2), 2) := by decide +kernel
theorem dX6_mean_14 : decode cX6_mean 14 = .ok (.invokevirtual 73, 3) := by decide +kernel
theorem dX6_mean_17 : decode cX6_mean 17 = .ok (.i2l, 1) := by decide +kernel
theorem dX6_mean_18 : decode cX6_mean 18 = .ok (.lsub, 1) := by decide +kernel
theorem dX6_mean_19 : decode cX6_mean 19 = .ok (.lreturn, 1) := by decide +kernel
theorem dX6_mean_20 : decode cX6_mean 20 = .ok (.aload_n 0, 1) := by decide +kernel
theorem dX6_mean_21 : decode cX6_mean 21 = .ok (.getfield 32, 3) := by decide +kernel
theorem dX6_mean_24 : decode cX6_mean 24 = .ok (.aload_n 0, 1) := by decide +kernel
theorem dX6_mean_25 : decode cX6_mean 25 = .ok (.getfield 10, 3) := by decide +kernel
theorem dX6_mean_28 : decode cX6_mean 28 = .ok (.invokevirtual 104, 3) := by decide +kernel
theorem dX6_mean_31 : decode cX6_mean 31 = .ok (.aload_n 0, 1) := by decide +kernel
theorem dX6_mean_32 : decode cX6_mean 32 = .ok (.getfield 32, 3) := by decide +kernel
theorem dX6_mean_35 : decode cX6_mean 35 = .ok (.invokevirtual 218, 3) := by decide +kernel
theorem dX6_mean_38 : decode cX6_mean 38 = .ok (.i2l, 1) := by decide +kernel
theorem dX6_mean_39 : decode cX6_mean 39 = .ok (.aload_n 0, 1) := by decide +kernel
theorem dX6_mean_40 : decode cX6_mean 40 = .ok (.getfield 10, 3) := by decide +kernel
theorem dX6_mean_43 : decode cX6_mean 43 = .ok (.getfield 221, 3) := by decide +kernel
theorem dX6_mean_46 : decode cX6_mean 46 = .ok (.i2l, 1) := by decide +kernel
theorem dX6_mean_47 : decode cX6_mean 47 = .ok (.iload_n 1, 1) := by decide +kernel
theorem dX6_mean_48 : decode cX6_mean 48 = .ok (.invokestatic 224, 3) := by decide +kernel
theorem dX6_mean_51 : decode cX6_mean 51 = .ok (.lreturn, 1) := by decide +kernel
theorem dX6_order_0 : decode cX6_order 0 = .ok (.iload_n 1, 1) := by decide +kernel
theorem dX6_order_1 : decode cX6_order 1 = .ok (.iload_n 2, 1) := by decide +kernel
theorem dX6_order_2 : decode cX6_order 2 = .ok (.iload_n 3, 1) := by decide +kernel
theorem dX6_order_3 : decode cX6_order 3 = .ok (.invokestatic 228, 3) := by decide +kernel
theorem dX6_order_6 : decode cX6_order 6 = .ok (.invokestatic 228, 3) := by decide +kernel
theorem dX6_order_9 : decode cX6_order 9 = .ok (.iload_n 1, 1) := by decide +kernel
theorem dX6_order_10 : decode cX6_order 10 = .ok (.iload_n 2, 1) := by decide +kernel
theorem dX6_order_11 : decode cX6_order 11 = .ok (.iload_n 3, 1) := by decide +kernel
theorem dX6_order_12 : decode cX6_order 12 = .ok (.invokestatic 233, 3) := by decide +kernel
theorem dX6_order_15 : decode cX6_order 15 = .ok (.invokestatic 233, 3) := by decide +kernel
theorem dX6_order_18 : decode cX6_order 18 = .ok (.invokestatic 236, 3) := by decide +kernel
theorem dX6_order_21 : decode cX6_order 21 = .ok (.istore 5, 2) := by decide +kernel
theorem dX6_order_23 : decode cX6_order 23 = .ok (.iload 5, 2) := by decide +kernel
theorem dX6_order_25 : decode cX6_order 25 = .ok (.ifCond .eq 10, 3) := by decide +kernel
theorem dX6_order_28 : decode cX6_order 28 = .ok (.aload_n 0, 1) := by decide +kernel
theorem dX6_order_29 : decode cX6_order 29 = .ok (.iload 5, 2) := by decide +kernel
theorem dX6_order_31 : decode cX6_order 31 = .ok (.invokevirtual 73, 3) := by decide +kernel
theorem dX6_order_34 : decode cX6_order 34 = .ok (.ireturn, 1) := by decide +kernel
theorem dX6_order_35 : decode cX6_order 35 = .ok (.iload 4, 2) := by decide +kernel
theorem dX6_order_37 : decode cX6_order 37 = .ok (.iconst 2, 1) := by decide +kernel
theorem dX6_order_38 : decode cX6_order 38 = .ok (.invokestatic 69, 3) := by decide +kernel
theorem dX6_order_41 : decode cX6_order 41 = .ok (.ifCond .ne 10, 3) := by decide +kernel
theorem dX6_order_44 : decode cX6_order 44 = .ok (.aload_n 0, 1) := by decide +kernel
theorem dX6_order_45 : decode cX6_order 45 = .ok (.bipush (-2), 2) := by decide +kernel
theorem dX6_order_47 : decode cX6_order 47 = .ok (.invokevirtual 73, 3) := by decide +kernel
theorem dX6_order_50 : decode cX6_order 50 = .ok (.ireturn, 1) := by decide +kernel
theorem dX6_order_51 : decode cX6_order 51 = .ok (.iconst 0, 1) := by decide +kernel
theorem dX6_order_52 : decode cX6_order 52 = .ok (.istore 6, 2) := by decide +kernel
theorem dX6_order_54 : decode cX6_order 54 = .ok (.iconst (-1), 1) := by decide +kernel
theorem dX6_order_55 : decode cX6_order 55 = .ok (.istore 7, 2) := by decide +kernel
theorem dX6_order_57 : decode cX6_order 57 = .ok (.iconst 0, 1) := by decide +kernel
theorem dX6_order_58 : decode cX6_order 58 = .ok (.istore 8, 2) := by decide +kernel
theorem dX6_order_60 : decode cX6_order 60 = .ok (.iload 8, 2) := by decide +kernel
theorem dX6_order_62 : decode cX6_order 62 = .ok (.iconst 3, 1) := by decide +kernel
theorem dX6_order_63 : decode cX6_order 63 = .ok (.if_icmp .ge 100, 3) := by decide +kernel
theorem dX6_order_66 : decode cX6_order 66 = .ok (.iconst 0, 1) := by decide +kernel
theorem dX6_order_67 : decode cX6_order 67 = .ok (.istore 9, 2) := by decide +kernel
theorem dX6_order_69 : decode cX6_order 69 = .ok (.iload 9, 2) := by decide +kernel
theorem dX6_order_71 : decode cX6_order 71 = .ok (.iconst 3, 1) := by decide +kernel
theorem dX6_order_72 : decode cX6_order 72 = .ok (.if_icmp .ge 85, 3) := by decide +kernel
theorem dX6_order_75 : decode cX6_order 75 = .ok (.iload 9, 2) := by decide +kernel
theorem dX6_order_77 : decode cX6_order 77 = .ok (.iload 8, 2) := by decide +kernel
theorem dX6_order_79 : decode cX6_order 79 = .ok (.if_icmp .ne 6, 3) := by decide +kernel
theorem dX6_order_82 : decode cX6_order 82 = .ok (.goto 69, 3) := by decide +kernel
theorem dX6_order_85 : decode cX6_order 85 = .ok (.iconst 3, 1) := by decide +kernel
theorem dX6_order_86 : decode cX6_order 86 = .ok (.iload 8, 2) := by decide +kernel
theorem dX6_order_88 : decode cX6_order 88 = .ok (.isub, 1) := by decide +kernel
theorem dX6_order_89 : decode cX6_order 89 = .ok (.iload 9, 2) := by decide +kernel
theorem dX6_order_91 : decode cX6_order 91 = .ok (.isub, 1) := by decide +kernel
theorem dX6_order_92 : decode cX6_order 92 = .ok (.istore 10, 2) := by decide +kernel
theorem dX6_order_94 : decode cX6_order 94 = .ok (.aload_n 0, 1) := by decide +kernel
theorem dX6_order_95 : decode cX6_order 95 = .ok (.iload 8, 2) := by decide +kernel
theorem dX6_order_97 : decode cX6_order 97 = .ok (.iload_n 1, 1) := by decide +kernel
theorem dX6_order_98 : decode cX6_order 98 = .ok (.iload_n 2, 1) := by decide +kernel
theorem dX6_order_99 : decode cX6_order 99 = .ok (.iload_n 3, 1) := by decide +kernel
theorem dX6_order_100 : decode cX6_order 100 = .ok (.invokestatic 239, 3) := by decide +kernel
theorem dX6_order_103 : decode cX6_order 103 = .ok (.iload 9, 2) := by decide +kernel
theorem dX6_order_105 : decode cX6_order 105 = .ok (.iload_n 1, 1) := by decide +kernel
theorem dX6_order_106 : decode cX6_order 106 = .ok (.iload_n 2, 1) := by decide +kernel
theorem dX6_order_107 : decode cX6_order 107 = .ok (.iload_n 3, 1) := by decide +kernel
theorem dX6_order_108 : decode cX6_order 108 = .ok (.invokestatic 239, 3) := by decide +kernel
theorem dX6_order_111 : decode cX6_order 111 = .ok (.iload 10, 2) := by decide +kernel
theorem dX6_order_113 : decode cX6_order 113 = .ok (.iload_n 1, 1) := by decide +kernel
theorem dX6_order_114 : decode cX6_order 114 = .ok (.iload_n 2, 1) := by decide +kernel
theorem dX6_order_115 : decode cX6_order 115 = .ok (.iload_n 3, 1) := by decide +kernel
theorem dX6_order_116 : decode cX6_order 116 = .ok (.invokestatic 239, 3) := by decide +kernel
theorem dX6_order_119 : decode cX6_order 119 = .ok (.invokevirtual 243, 3) := by decide +kernel
theorem dX6_order_122 : decode cX6_order 122 = .ok (.istore 11, 2) := by decide +kernel
theorem dX6_order_124 : decode cX6_order 124 = .ok (.iload 11, 2) := by decide +kernel
theorem dX6_order_126 : decode cX6_order 126 = .ok (.iload 7, 2) := by decide +kernel
theorem dX6_order_128 : decode cX6_order 128 = .ok (.if_icmp .le 23, 3) := by decide +kernel
theorem dX6_order_131 : decode cX6_order 131 = .ok (.iload 11, 2) := by decide +kernel
theorem dX6_order_133 : decode cX6_order 133 = .ok (.istore 7, 2) := by decide +kernel
theorem dX6_order_135 : decode cX6_order 135 = .ok (.bipush 100, 2) := by decide +kernel
theorem dX6_order_137 : decode cX6_order 137 = .ok (.iload 8, 2) := by decide +kernel
theorem dX6_order_139 : decode cX6_order 139 = .ok (.imul, 1) := by decide +kernel
theorem dX6_order_140 : decode cX6_order 140 = .ok (.bipush 10, 2) := by decide +kernel
theorem dX6_order_142 : decode cX6_order 142 = .ok (.iload 9, 2) := by decide +kernel
theorem dX6_order_144 : decode cX6_order 144 = .ok (.imul, 1) := by decide +kernel
theorem dX6_order_145 : decode cX6_order 145 = .ok (.iadd, 1) := by decide +kernel
theorem dX6_order_146 : decode cX6_order 146 = .ok (.iload 10, 2) := by decide +kernel
theorem dX6_order_148 : decode cX6_order 148 = .ok (.iadd, 1) := by decide +kernel
theorem dX6_order_149 : decode cX6_order 149 = .ok (.istore 6, 2) := by decide +kernel
theorem dX6_order_151 : decode cX6_order 151 = .ok (.iinc 9 1, 3) := by decide +kernel
theorem dX6_order_154 : decode cX6_order 154 = .ok (.goto (-85), 3) := by decide +kernel
theorem dX6_order_157 : decode cX6_order 157 = .ok (.iinc 8 1, 3) := by decide +kernel
theorem dX6_order_160 : decode cX6_order 160 = .ok (.goto (-100), 3) := by decide +kernel
theorem dX6_order_163 : decode cX6_order 163 = .ok (.iload 4, 2) := by decide +kernel
theorem dX6_order_165 : decode cX6_order 165 = .ok (.ifCond .ne 8, 3) := by decide +kernel
theorem dX6_order_168 : decode cX6_order 168 = .ok (.iload 6, 2) := by decide +kernel
theorem dX6_order_170 : decode cX6_order 170 = .ok (.goto 5, 3) := by decide +kernel
theorem dX6_order_173 : decode cX6_order 173 = .ok (.iload 7, 2) := by decide +kernel
theorem dX6_order_175 : decode cX6_order 175 = .ok (.ireturn, 1) := by decide +kernel
theorem dX6_pick_0 : decode cX6_pick 0 = .ok (.iload_n 0, 1) := by decide +kernel
theorem dX6_pick_1 : decode cX6_pick 1 = .ok (.ifCond .ne 7, 3) := by decide +kernel
theorem dX6_pick_4 : decode cX6_pick 4 = .ok (.iload_n 1, 1) := by decide +kernel
theorem dX6_pick_5 : decode cX6_pick 5 = .ok (.goto 13, 3) := by decide +kernel
theorem dX6_pick_8 : decode cX6_pick 8 = .ok (.iload_n 0, 1) := by decide +kernel
theorem dX6_pick_9 : decode cX6_pick 9 = .ok (.iconst 1, 1) := by decide +kernel
theorem dX6_pick_10 : decode cX6_pick 10 = .ok (.if_icmp .ne 7, 3) := by decide +kernel
theorem dX6_pick_13 : decode cX6_pick 13 = .ok (.iload_n 2, 1) := by decide +kernel
theorem dX6_pick_14 : decode cX6_pick 14 = .ok (.goto 4, 3) := by decide +kernel
theorem dX6_pick_17 : decode cX6_pick 17 = .ok (.iload_n 3, 1) := by decide +kernel
theorem dX6_pick_18 : decode cX6_pick 18 = .ok (.ireturn, 1) := by decide +kernel
theorem dX6_joinedInTurn_0 : decode cX6_joinedInTurn 0 = .ok (.aload_n 0, 1) := by decide +kernel
theorem dX6_joinedInTurn_1 : decode cX6_joinedInTurn 1 = .ok (.getfield 16, 3) := by decide +kernel
theorem dX6_joinedInTurn_4 : decode cX6_joinedInTurn 4 = .ok (.aload_n 0, 1) := by decide +kernel
theorem dX6_joinedInTurn_5 : decode cX6_joinedInTurn 5 = .ok (.getfield 10, 3) := by decide +kernel
theorem dX6_joinedInTurn_8 : decode cX6_joinedInTurn 8 = .ok (.invokevirtual 56, 3) := by decide +kernel
theorem dX6_joinedInTurn_11 : decode cX6_joinedInTurn 11 = .ok (.aload_n 0, 1) := by decide +kernel
theorem dX6_joinedInTurn_12 : decode cX6_joinedInTurn 12 = .ok (.aload_n 0, 1) := by decide +kernel
theorem dX6_joinedInTurn_13 : decode cX6_joinedInTurn 13 = .ok (.getfield 16, 3) := by decide +kernel
theorem dX6_joinedInTurn_16 : decode cX6_joinedInTurn 16 = .ok (.iload_n 1, 1) := by decide +kernel
theorem dX6_joinedInTurn_17 : decode cX6_joinedInTurn 17 = .ok (.invokevirtual 246, 3) := by decide +kernel
theorem dX6_joinedInTurn_20 : decode cX6_joinedInTurn 20 = .ok (.iconst 1, 1) := by decide +kernel
theorem dX6_joinedInTurn_21 : decode cX6_joinedInTurn 21 = .ok (.if_icmp .ne 7, 3) := by decide +kernel
theorem dX6_joinedInTurn_24 : decode cX6_joinedInTurn 24 = .ok (.iconst 1, 1) := by decide +kernel
theorem dX6_joinedInTurn_25 : decode cX6_joinedInTurn 25 = .ok (.goto 4, 3) := by decide +kernel
theorem dX6_joinedInTurn_28 : decode cX6_joinedInTurn 28 = .ok (.iconst 0, 1) := by decide +kernel
theorem dX6_joinedInTurn_29 : decode cX6_joinedInTurn 29 = .ok (.invokestatic 87, 3) := by decide +kernel
theorem dX6_joinedInTurn_32 : decode cX6_joinedInTurn 32 = .ok (.aload_n 0, 1) := by decide +kernel
theorem dX6_joinedInTurn_33 : decode cX6_joinedInTurn 33 = .ok (.aload_n 0, 1) := by decide +kernel
theorem dX6_joinedInTurn_34 : decode cX6_joinedInTurn 34 = .ok (.getfield 16, 3) := by decide +kernel
theorem dX6_joinedInTurn_37 : decode cX6_joinedInTurn 37 = .ok (.iload_n 2, 1) := by decide +kernel
theorem dX6_joinedInTurn_38 : decode cX6_joinedInTurn 38 = .ok (.invokevirtual 246, 3) := by decide +kernel
theorem dX6_joinedInTurn_41 : decode cX6_joinedInTurn 41 = .ok (.iconst 1, 1) := by decide +kernel
theorem dX6_joinedInTurn_42 : decode cX6_joinedInTurn 42 = .ok (.if_icmp .ne 7, 3) := by decide +kernel
theorem dX6_joinedInTurn_45 : decode cX6_joinedInTurn 45 = .ok (.iconst 1, 1) := by decide +kernel
theorem dX6_joinedInTurn_46 : decode cX6_joinedInTurn 46 = .ok (.goto 4, 3) := by decide +kernel
theorem dX6_joinedInTurn_49 : decode cX6_joinedInTurn 49 = .ok (.iconst 0, 1) := by decide +kernel
theorem dX6_joinedInTurn_50 : decode cX6_joinedInTurn 50 = .ok (.invokestatic 87, 3) := by decide +kernel
theorem dX6_joinedInTurn_53 : decode cX6_joinedInTurn 53 = .ok (.iadd, 1) := by decide +kernel
theorem dX6_joinedInTurn_54 : decode cX6_joinedInTurn 54 = .ok (.aload_n 0, 1) := by decide +kernel
theorem dX6_joinedInTurn_55 : decode cX6_joinedInTurn 55 = .ok (.aload_n 0, 1) := by decide +kernel
theorem dX6_joinedInTurn_56 : decode cX6_joinedInTurn 56 = .ok (.getfield 16, 3) := by decide +kernel
theorem dX6_joinedInTurn_59 : decode cX6_joinedInTurn 59 = .ok (.iload_n 3, 1) := by decide +kernel
theorem dX6_joinedInTurn_60 : decode cX6_joinedInTurn 60 = .ok (.invokevirtual 246, 3) := by decide +kernel
theorem dX6_joinedInTurn_63 : decode cX6_joinedInTurn 63 = .ok (.iconst 1, 1) := by decide +kernel
theorem dX6_joinedInTurn_64 : decode cX6_joinedInTurn 64 = .ok (.if_icmp .ne 7, 3) := by decide +kernel
theorem dX6_joinedInTurn_67 : decode cX6_joinedInTurn 67 = .ok (.iconst 1, 1) := by decide +kernel
theorem dX6_joinedInTurn_68 : decode cX6_joinedInTurn 68 = .ok (.goto 4, 3) := by decide +kernel
theorem dX6_joinedInTurn_71 : decode cX6_joinedInTurn 71 = .ok (.iconst 0, 1) := by decide +kernel
theorem dX6_joinedInTurn_72 : decode cX6_joinedInTurn 72 = .ok (.invokestatic 87, 3) := by decide +kernel
theorem dX6_joinedInTurn_75 : decode cX6_joinedInTurn 75 = .ok (.iadd, 1) := by decide +kernel
theorem dX6_joinedInTurn_76 : decode cX6_joinedInTurn 76 = .ok (.ireturn, 1) := by decide +kernel
theorem dX6_two_0 : decode cX6_two 0 = .ok (.iload_n 1, 1) := by decide +kernel
theorem dX6_two_1 : decode cX6_two 1 = .ok (.iload_n 2, 1) := by decide +kernel
theorem dX6_two_2 : decode cX6_two 2 = .ok (.invokestatic 228, 3) := by decide +kernel
theorem dX6_two_5 : decode cX6_two 5 = .ok (.iload_n 1, 1) := by decide +kernel
theorem dX6_two_6 : decode cX6_two 6 = .ok (.iload_n 2, 1) := by decide +kernel
theorem dX6_two_7 : decode cX6_two 7 = .ok (.invokestatic 233, 3) := by decide +kernel
theorem dX6_two_10 : decode cX6_two 10 = .ok (.invokestatic 236, 3) := by decide +kernel
theorem dX6_two_13 : decode cX6_two 13 = .ok (.istore_n 3, 1) := by decide +kernel
theorem dX6_two_14 : decode cX6_two 14 = .ok (.iload_n 3, 1) := by decide +kernel
theorem dX6_two_15 : decode cX6_two 15 = .ok (.ifCond .eq 9, 3) := by decide +kernel
theorem dX6_two_18 : decode cX6_two 18 = .ok (.aload_n 0, 1) := by decide +kernel
theorem dX6_two_19 : decode cX6_two 19 = .ok (.iload_n 3, 1) := by decide +kernel
theorem dX6_two_20 : decode cX6_two 20 = .ok (.invokevirtual 73, 3) := by decide +kernel
theorem dX6_two_23 : decode cX6_two 23 = .ok (.ireturn, 1) := by decide +kernel
theorem dX6_two_24 : decode cX6_two 24 = .ok (.aload_n 0, 1) := by decide +kernel
theorem dX6_two_25 : decode cX6_two 25 = .ok (.aload_n 0, 1) := by decide +kernel
theorem dX6_two_26 : decode cX6_two 26 = .ok (.getfield 10, 3) := by decide +kernel
theorem dX6_two_29 : decode cX6_two 29 = .ok (.iload_n 2, 1) := by decide +kernel
theorem dX6_two_30 : decode cX6_two 30 = .ok (.invokevirtual 172, 3) := by decide +kernel
theorem dX6_two_33 : decode cX6_two 33 = .ok (.invokestatic 249, 3) := by decide +kernel
theorem dX6_two_36 : decode cX6_two 36 = .ok (.istore 4, 2) := by decide +kernel
theorem dX6_two_38 : decode cX6_two 38 = .ok (.aload_n 0, 1) := by decide +kernel
theorem dX6_two_39 : decode cX6_two 39 = .ok (.getfield 16, 3) := by decide +kernel
theorem dX6_two_42 : decode cX6_two 42 = .ok (.aload_n 0, 1) := by decide +kernel
theorem dX6_two_43 : decode cX6_two 43 = .ok (.getfield 10, 3) := by decide +kernel
theorem dX6_two_46 : decode cX6_two 46 = .ok (.invokevirtual 56, 3) := by decide +kernel
theorem dX6_two_49 : decode cX6_two 49 = .ok (.aload_n 0, 1) := by decide +kernel
theorem dX6_two_50 : decode cX6_two 50 = .ok (.aload_n 0, 1) := by decide +kernel
theorem dX6_two_51 : decode cX6_two 51 = .ok (.getfield 16, 3) := by decide +kernel
theorem dX6_two_54 : decode cX6_two 54 = .ok (.iload_n 1, 1) := by decide +kernel
theorem dX6_two_55 : decode cX6_two 55 = .ok (.invokevirtual 246, 3) := by decide +kernel
theorem dX6_two_58 : decode cX6_two 58 = .ok (.invokestatic 249, 3) := by decide +kernel
theorem dX6_two_61 : decode cX6_two 61 = .ok (.istore 5, 2) := by decide +kernel
theorem dX6_two_63 : decode cX6_two 63 = .ok (.aload_n 0, 1) := by decide +kernel
theorem dX6_two_64 : decode cX6_two 64 = .ok (.aload_n 0, 1) := by decide +kernel
theorem dX6_two_65 : decode cX6_two 65 = .ok (.getfield 16, 3) := by decide +kernel
theorem dX6_two_68 : decode cX6_two 68 = .ok (.iload_n 2, 1) := by decide +kernel
theorem dX6_two_69 : decode cX6_two 69 = .ok (.invokevirtual 172, 3) := by decide +kernel
theorem dX6_two_72 : decode cX6_two 72 = .ok (.invokestatic 249, 3) := by decide +kernel
theorem dX6_two_75 : decode cX6_two 75 = .ok (.istore 6, 2) := by decide +kernel
theorem dX6_two_77 : decode cX6_two 77 = .ok (.iconst 0, 1) := by decide +kernel
theorem dX6_two_78 : decode cX6_two 78 = .ok (.istore 7, 2) := by decide +kernel
theorem dX6_two_80 : decode cX6_two 80 = .ok (.iload 7, 2) := by decide +kernel
theorem dX6_two_82 : decode cX6_two 82 = .ok (.iconst 2, 1) := by decide +kernel
theorem dX6_two_83 : decode cX6_two 83 = .ok (.if_icmp .ge 120, 3) := by decide +kernel
theorem dX6_two_86 : decode cX6_two 86 = .ok (.iload 7, 2) := by decide +kernel
theorem dX6_two_88 : decode cX6_two 88 = .ok (.iconst 1, 1) := by decide +kernel
theorem dX6_two_89 : decode cX6_two 89 = .ok (.if_icmp .ne 16, 3) := by decide +kernel
theorem dX6_two_92 : decode cX6_two 92 = .ok (.iload 5, 2) := by decide +kernel
theorem dX6_two_94 : decode cX6_two 94 = .ok (.ifCond .lt 7, 3) := by decide +kernel
theorem dX6_two_97 : decode cX6_two 97 = .ok (.iconst 1, 1) := by decide +kernel
theorem dX6_two_98 : decode cX6_two 98 = .ok (.goto 17, 3) := by decide +kernel
theorem dX6_two_101 : decode cX6_two 101 = .ok (.iconst 0, 1) := by decide +kernel
theorem dX6_two_102 : decode cX6_two 102 = .ok (.goto 13, 3) := by decide +kernel
theorem dX6_two_105 : decode cX6_two 105 = .ok (.iload 5, 2) := by decide +kernel
theorem dX6_two_107 : decode cX6_two 107 = .ok (.ifCond .gt 7, 3) := by decide +kernel
theorem dX6_two_110 : decode cX6_two 110 = .ok (.iconst 1, 1) := by decide +kernel
theorem dX6_two_111 : decode cX6_two 111 = .ok (.goto 4, 3) := by decide +kernel
theorem dX6_two_114 : decode cX6_two 114 = .ok (.iconst 0, 1) := by decide +kernel
theorem dX6_two_115 : decode cX6_two 115 = .ok (.istore 8, 2) := by decide +kernel
theorem dX6_two_117 : decode cX6_two 117 = .ok (.iload 7, 2) := by decide +kernel
theorem dX6_two_119 : decode cX6_two 119 = .ok (.iconst 1, 1) := by decide +kernel
theorem dX6_two_120 : decode cX6_two 120 = .ok (.if_icmp .ne 8, 3) := by decide +kernel
theorem dX6_two_123 : decode cX6_two 123 = .ok (.iload 6, 2) := by decide +kernel
theorem dX6_two_125 : decode cX6_two 125 = .ok (.goto 5, 3) := by decide +kernel
theorem dX6_two_128 : decode cX6_two 128 = .ok (.iload 4, 2) := by decide +kernel
theorem dX6_two_130 : decode cX6_two 130 = .ok (.istore 9, 2) := by decide +kernel
theorem dX6_two_132 : decode cX6_two 132 = .ok (.iconst 0, 1) := by decide +kernel
theorem dX6_two_133 : decode cX6_two 133 = .ok (.istore 10, 2) := by decide +kernel
theorem dX6_two_135 : decode cX6_two 135 = .ok (.iload 10, 2) := by decide +kernel
theorem dX6_two_137 : decode cX6_two 137 = .ok (.iconst 2, 1) := by decide +kernel
theorem dX6_two_138 : decode cX6_two 138 = .ok (.if_icmp .ge 59, 3) := by decide +kernel
theorem dX6_two_141 : decode cX6_two 141 = .ok (.iload 10, 2) := by decide +kernel
theorem dX6_two_143 : decode cX6_two 143 = .ok (.iconst 1, 1) := by decide +kernel
theorem dX6_two_144 : decode cX6_two 144 = .ok (.if_icmp .ne 16, 3) := by decide +kernel
theorem dX6_two_147 : decode cX6_two 147 = .ok (.iload 9, 2) := by decide +kernel
theorem dX6_two_149 : decode cX6_two 149 = .ok (.ifCond .lt 7, 3) := by decide +kernel
theorem dX6_two_152 : decode cX6_two 152 = .ok (.iconst 1, 1) := by decide +kernel
theorem dX6_two_153 : decode cX6_two 153 = .ok (.goto 17, 3) := by decide +kernel
theorem dX6_two_156 : decode cX6_two 156 = .ok (.iconst 0, 1) := by decide +kernel
theorem dX6_two_157 : decode cX6_two 157 = .ok (.goto 13, 3) := by decide +kernel
theorem dX6_two_160 : decode cX6_two 160 = .ok (.iload 9, 2) := by decide +kernel
theorem dX6_two_162 : decode cX6_two 162 = .ok (.ifCond .gt 7, 3) := by decide +kernel
theorem dX6_two_165 : decode cX6_two 165 = .ok (.iconst 1, 1) := by decide +kernel
theorem dX6_two_166 : decode cX6_two 166 = .ok (.goto 4, 3) := by decide +kernel
theorem dX6_two_169 : decode cX6_two 169 = .ok (.iconst 0, 1) := by decide +kernel
theorem dX6_two_170 : decode cX6_two 170 = .ok (.istore 11, 2) := by decide +kernel
theorem dX6_two_172 : decode cX6_two 172 = .ok (.iload 8, 2) := by decide +kernel
theorem dX6_two_174 : decode cX6_two 174 = .ok (.ifCond .eq 17, 3) := by decide +kernel
theorem dX6_two_177 : decode cX6_two 177 = .ok (.iload 11, 2) := by decide +kernel
theorem dX6_two_179 : decode cX6_two 179 = .ok (.ifCond .eq 12, 3) := by decide +kernel
theorem dX6_two_182 : decode cX6_two 182 = .ok (.bipush 10, 2) := by decide +kernel
theorem dX6_two_184 : decode cX6_two 184 = .ok (.iload 7, 2) := by decide +kernel
theorem dX6_two_186 : decode cX6_two 186 = .ok (.imul, 1) := by decide +kernel
theorem dX6_two_187 : decode cX6_two 187 = .ok (.iload 10, 2) := by decide +kernel
theorem dX6_two_189 : decode cX6_two 189 = .ok (.iadd, 1) := by decide +kernel
theorem dX6_two_190 : decode cX6_two 190 = .ok (.ireturn, 1) := by decide +kernel
theorem dX6_two_191 : decode cX6_two 191 = .ok (.iinc 10 1, 3) := by decide +kernel
theorem dX6_two_194 : decode cX6_two 194 = .ok (.goto (-59), 3) := by decide +kernel
theorem dX6_two_197 : decode cX6_two 197 = .ok (.iinc 7 1, 3) := by decide +kernel
theorem dX6_two_200 : decode cX6_two 200 = .ok (.goto (-120), 3) := by decide +kernel
theorem dX6_two_203 : decode cX6_two 203 = .ok (.bipush (-9), 2) := by decide +kernel
theorem dX6_two_205 : decode cX6_two 205 = .ok (.ireturn, 1) := by decide +kernel
theorem dX6_gain_0 : decode cX6_gain 0 = .ok (.iload_n 0, 1) := by decide +kernel
theorem dX6_gain_1 : decode cX6_gain 1 = .ok (.iconst 1, 1) := by decide +kernel
theorem dX6_gain_2 : decode cX6_gain 2 = .ok (.if_icmp .ne 7, 3) := by decide +kernel
theorem dX6_gain_5 : decode cX6_gain 5 = .ok (.iconst 3, 1) := by decide +kernel
theorem dX6_gain_6 : decode cX6_gain 6 = .ok (.goto 12, 3) := by decide +kernel
theorem dX6_gain_9 : decode cX6_gain 9 = .ok (.iload_n 0, 1) := by decide +kernel
theorem dX6_gain_10 : decode cX6_gain 10 = .ok (.ifCond .ne 7, 3) := by decide +kernel
theorem dX6_gain_13 : decode cX6_gain 13 = .ok (.iconst 1, 1) := by decide +kernel
theorem dX6_gain_14 : decode cX6_gain 14 = .ok (.goto 4, 3) := by decide +kernel
theorem dX6_gain_17 : decode cX6_gain 17 = .ok (.iconst (-1), 1) := by decide +kernel
theorem dX6_gain_18 : decode cX6_gain 18 = .ok (.ireturn, 1) := by decide +kernel
theorem dX6_cheapest_0 : decode cX6_cheapest 0 = .ok (.iload_n 1, 1) := by decide +kernel
theorem dX6_cheapest_1 : decode cX6_cheapest 1 = .ok (.iconst 2, 1) := by decide +kernel
theorem dX6_cheapest_2 : decode cX6_cheapest 2 = .ok (.invokestatic 69, 3) := by decide +kernel
theorem dX6_cheapest_5 : decode cX6_cheapest 5 = .ok (.ifCond .ne 10, 3) := by decide +kernel
theorem dX6_cheapest_8 : decode cX6_cheapest 8 = .ok (.aload_n 0, 1) := by decide +kernel
theorem dX6_cheapest_9 : decode cX6_cheapest 9 = .ok (.bipush (-2), 2) := by decide +kernel
theorem dX6_cheapest_11 : decode cX6_cheapest 11 = .ok (.invokevirtual 73, 3) := by decide +kernel
theorem dX6_cheapest_14 : decode cX6_cheapest 14 = .ok (.ireturn, 1) := by decide +kernel
theorem dX6_cheapest_15 : decode cX6_cheapest 15 = .ok (.bipush (-9), 2) := by decide +kernel
theorem dX6_cheapest_17 : decode cX6_cheapest 17 = .ok (.istore_n 2, 1) := by decide +kernel
theorem dX6_cheapest_18 : decode cX6_cheapest 18 = .ok (.bipush 9, 2) := by decide +kernel
theorem dX6_cheapest_20 : decode cX6_cheapest 20 = .ok (.istore_n 3, 1) := by decide +kernel
theorem dX6_cheapest_21 : decode cX6_cheapest 21 = .ok (.iconst 1, 1) := by decide +kernel
theorem dX6_cheapest_22 : decode cX6_cheapest 22 = .ok (.istore 4, 2) := by decide +kernel
theorem dX6_cheapest_24 : decode cX6_cheapest 24 = .ok (.iload 4, 2) := by decide +kernel
theorem dX6_cheapest_26 : decode cX6_cheapest 26 = .ok (.sipush 255, 3) := by decide +kernel
theorem dX6_cheapest_29 : decode cX6_cheapest 29 = .ok (.if_icmp .gt 42, 3) := by decide +kernel
theorem dX6_cheapest_32 : decode cX6_cheapest 32 = .ok (.iload 4, 2) := by decide +kernel
theorem dX6_cheapest_34 : decode cX6_cheapest 34 = .ok (.invokestatic 213, 3) := by decide +kernel
theorem dX6_cheapest_37 : decode cX6_cheapest 37 = .ok (.istore 5, 2) := by decide +kernel
theorem dX6_cheapest_39 : decode cX6_cheapest 39 = .ok (.iload 5, 2) := by decide +kernel
theorem dX6_cheapest_41 : decode cX6_cheapest 41 = .ok (.iload_n 3, 1) := by decide +kernel
theorem dX6_cheapest_42 : decode cX6_cheapest 42 = .ok (.if_icmp .ge 23, 3) := by decide +kernel
theorem dX6_cheapest_45 : decode cX6_cheapest 45 = .ok (.aload_n 0, 1) := by decide +kernel
theorem dX6_cheapest_46 : decode cX6_cheapest 46 = .ok (.aload_n 0, 1) := by decide +kernel
theorem dX6_cheapest_47 : decode cX6_cheapest 47 = .ok (.getfield 10, 3) := by decide +kernel
theorem dX6_cheapest_50 : decode cX6_cheapest 50 = .ok (.iload 4, 2) := by decide +kernel
theorem dX6_cheapest_52 : decode cX6_cheapest 52 = .ok (.invokevirtual 172, 3) := by decide +kernel
theorem dX6_cheapest_55 : decode cX6_cheapest 55 = .ok (.iconst 1, 1) := by decide +kernel
theorem dX6_cheapest_56 : decode cX6_cheapest 56 = .ok (.if_icmp .ne 9, 3) := by decide +kernel
theorem dX6_cheapest_59 : decode cX6_cheapest 59 = .ok (.iload 4, 2) := by decide +kernel
theorem dX6_cheapest_61 : decode cX6_cheapest 61 = .ok (.istore_n 2, 1) := by decide +kernel
theorem dX6_cheapest_62 : decode cX6_cheapest 62 = .ok (.iload 5, 2) := by decide +kernel
theorem dX6_cheapest_64 : decode cX6_cheapest 64 = .ok (.istore_n 3, 1) := by decide +kernel
theorem dX6_cheapest_65 : decode cX6_cheapest 65 = .ok (.iinc 4 1, 3) := by decide +kernel
theorem dX6_cheapest_68 : decode cX6_cheapest 68 = .ok (.goto (-44), 3) := by decide +kernel
theorem dX6_cheapest_71 : decode cX6_cheapest 71 = .ok (.iload_n 1, 1) := by decide +kernel
theorem dX6_cheapest_72 : decode cX6_cheapest 72 = .ok (.ifCond .eq 9, 3) := by decide +kernel
theorem dX6_cheapest_75 : decode cX6_cheapest 75 = .ok (.iload_n 2, 1) := by decide +kernel
theorem dX6_cheapest_76 : decode cX6_cheapest 76 = .ok (.bipush (-9), 2) := by decide +kernel
theorem dX6_cheapest_78 : decode cX6_cheapest 78 = .ok (.if_icmp .ne 7, 3) := by decide +kernel
theorem dX6_cheapest_81 : decode cX6_cheapest 81 = .ok (.iload_n 2, 1) := by decide +kernel
theorem dX6_cheapest_82 : decode cX6_cheapest 82 = .ok (.goto 4, 3) := by decide +kernel
theorem dX6_cheapest_85 : decode cX6_cheapest 85 = .ok (.iload_n 3, 1) := by decide +kernel
theorem dX6_cheapest_86 : decode cX6_cheapest 86 = .ok (.ireturn, 1) := by decide +kernel
theorem dX6_share_0 : decode cX6_share 0 = .ok (.iload_n 1, 1) := by decide +kernel
theorem dX6_share_1 : decode cX6_share 1 = .ok (.iconst 2, 1) := by decide +kernel
theorem dX6_share_2 : decode cX6_share 2 = .ok (.invokestatic 69, 3) := by decide +kernel
theorem dX6_share_5 : decode cX6_share 5 = .ok (.ifCond .ne 15, 3) := by decide +kernel
theorem dX6_share_8 : decode cX6_share 8 = .ok (.ldc2_w 182, 3) := by decide +kernel
theorem dX6_share_11 : decode cX6_share 11 = .ok (.aload_n 0, 1) := by decide +kernel
theorem dX6_share_12 : decode cX6_share 12 = .ok (.bipush (-2), 2) := by decide +kernel
theorem dX6_share_14 : decode cX6_share 14 = .ok (.invokevirtual 73, 3) := by decide +kernel
theorem dX6_share_17 : decode cX6_share 17 = .ok (.i2l, 1) := by decide +kernel
theorem dX6_share_18 : decode cX6_share 18 = .ok (.lsub, 1) := by decide +kernel
theorem dX6_share_19 : decode cX6_share 19 = .ok (.lreturn, 1) := by decide +kernel
theorem dX6_share_20 : decode cX6_share 20 = .ok (.sipush 255, 3) := by decide +kernel
theorem dX6_share_23 : decode cX6_share 23 = .ok (.aload_n 0, 1) := by decide +kernel
theorem dX6_share_24 : decode cX6_share 24 = .ok (.iconst 2, 1) := by decide +kernel
theorem dX6_share_25 : decode cX6_share 25 = .ok (.invokevirtual 169, 3) := by decide +kernel
theorem dX6_share_28 : decode cX6_share 28 = .ok (.isub, 1) := by decide +kernel
theorem dX6_share_29 : decode cX6_share 29 = .ok (.i2l, 1) := by decide +kernel
theorem dX6_share_30 : decode cX6_share 30 = .ok (.ldc2_w 252, 3) := by decide +kernel
theorem dX6_share_33 : decode cX6_share 33 = .ok (.iload_n 1, 1) := by decide +kernel
theorem dX6_share_34 : decode cX6_share 34 = .ok (.invokestatic 224, 3) := by decide +kernel
theorem dX6_share_37 : decode cX6_share 37 = .ok (.lreturn, 1) := by decide +kernel
theorem dX6_lots_0 : decode cX6_lots 0 = .ok (.iload_n 1, 1) := by decide +kernel
theorem dX6_lots_1 : decode cX6_lots 1 = .ok (.iconst 1, 1) := by decide +kernel
theorem dX6_lots_2 : decode cX6_lots 2 = .ok (.bipush 20, 2) := by decide +kernel
theorem dX6_lots_4 : decode cX6_lots 4 = .ok (.invokestatic 125, 3) := by decide +kernel
theorem dX6_lots_7 : decode cX6_lots 7 = .ok (.istore 4, 2) := by decide +kernel
theorem dX6_lots_9 : decode cX6_lots 9 = .ok (.iload 4, 2) := by decide +kernel
theorem dX6_lots_11 : decode cX6_lots 11 = .ok (.ifCond .eq 10, 3) := by decide +kernel
theorem dX6_lots_14 : decode cX6_lots 14 = .ok (.aload_n 0, 1) := by decide +kernel
theorem dX6_lots_15 : decode cX6_lots 15 = .ok (.iload 4, 2) := by decide +kernel
theorem dX6_lots_17 : decode cX6_lots 17 = .ok (.invokevirtual 73, 3) := by decide +kernel
theorem dX6_lots_20 : decode cX6_lots 20 = .ok (.ireturn, 1) := by decide +kernel
theorem dX6_lots_21 : decode cX6_lots 21 = .ok (.iload_n 3, 1) := by decide +kernel
theorem dX6_lots_22 : decode cX6_lots 22 = .ok (.iconst 2, 1) := by decide +kernel
theorem dX6_lots_23 : decode cX6_lots 23 = .ok (.invokestatic 69, 3) := by decide +kernel
theorem dX6_lots_26 : decode cX6_lots 26 = .ok (.ifCond .ne 10, 3) := by decide +kernel
theorem dX6_lots_29 : decode cX6_lots 29 = .ok (.aload_n 0, 1) := by decide +kernel
theorem dX6_lots_30 : decode cX6_lots 30 = .ok (.bipush (-2), 2) := by decide +kernel
theorem dX6_lots_32 : decode cX6_lots 32 = .ok (.invokevirtual 73, 3) := by decide +kernel
theorem dX6_lots_35 : decode cX6_lots 35 = .ok (.ireturn, 1) := by decide +kernel
theorem dX6_lots_36 : decode cX6_lots 36 = .ok (.iload_n 3, 1) := by decide +kernel
theorem dX6_lots_37 : decode cX6_lots 37 = .ok (.ifCond .ne 7, 3) := by decide +kernel
theorem dX6_lots_40 : decode cX6_lots 40 = .ok (.iconst 1, 1) := by decide +kernel
theorem dX6_lots_41 : decode cX6_lots 41 = .ok (.goto 4, 3) := by decide +kernel
theorem dX6_lots_44 : decode cX6_lots 44 = .ok (.iconst 2, 1) := by decide +kernel
theorem dX6_lots_45 : decode cX6_lots 45 = .ok (.istore 5, 2) := by decide +kernel
theorem dX6_lots_47 : decode cX6_lots 47 = .ok (.iload_n 2, 1) := by decide +kernel
theorem dX6_lots_48 : decode cX6_lots 48 = .ok (.istore 6, 2) := by decide +kernel
theorem dX6_lots_50 : decode cX6_lots 50 = .ok (.iconst 0, 1) := by decide +kernel
theorem dX6_lots_51 : decode cX6_lots 51 = .ok (.istore 7, 2) := by decide +kernel
theorem dX6_lots_53 : decode cX6_lots 53 = .ok (.iconst 0, 1) := by decide +kernel
theorem dX6_lots_54 : decode cX6_lots 54 = .ok (.istore 8, 2) := by decide +kernel
theorem dX6_lots_56 : decode cX6_lots 56 = .ok (.iload 8, 2) := by decide +kernel
theorem dX6_lots_58 : decode cX6_lots 58 = .ok (.iload_n 1, 1) := by decide +kernel
theorem dX6_lots_59 : decode cX6_lots 59 = .ok (.if_icmp .ge 82, 3) := by decide +kernel
theorem dX6_lots_62 : decode cX6_lots 62 = .ok (.aload_n 0, 1) := by decide +kernel
theorem dX6_lots_63 : decode cX6_lots 63 = .ok (.getfield 16, 3) := by decide +kernel
theorem dX6_lots_66 : decode cX6_lots 66 = .ok (.aload_n 0, 1) := by decide +kernel
theorem dX6_lots_67 : decode cX6_lots 67 = .ok (.getfield 10, 3) := by decide +kernel
theorem dX6_lots_70 : decode cX6_lots 70 = .ok (.invokevirtual 56, 3) := by decide +kernel
theorem dX6_lots_73 : decode cX6_lots 73 = .ok (.iconst 0, 1) := by decide +kernel
theorem dX6_lots_74 : decode cX6_lots 74 = .ok (.istore 9, 2) := by decide +kernel
theorem dX6_lots_76 : decode cX6_lots 76 = .ok (.iload 9, 2) := by decide +kernel
theorem dX6_lots_78 : decode cX6_lots 78 = .ok (.bipush 8, 2) := by decide +kernel
theorem dX6_lots_80 : decode cX6_lots 80 = .ok (.if_icmp .ge 55, 3) := by decide +kernel
theorem dX6_lots_83 : decode cX6_lots 83 = .ok (.iload 6, 2) := by decide +kernel
theorem dX6_lots_85 : decode cX6_lots 85 = .ok (.ldc 254, 2) := by decide +kernel
theorem dX6_lots_87 : decode cX6_lots 87 = .ok (.imul, 1) := by decide +kernel
theorem dX6_lots_88 : decode cX6_lots 88 = .ok (.ldc 255, 2) := by decide +kernel
theorem dX6_lots_90 : decode cX6_lots 90 = .ok (.iadd, 1) := by decide +kernel
theorem dX6_lots_91 : decode cX6_lots 91 = .ok (.istore 6, 2) := by decide +kernel
theorem dX6_lots_93 : decode cX6_lots 93 = .ok (.iload 6, 2) := by decide +kernel
theorem dX6_lots_95 : decode cX6_lots 95 = .ok (.ldc_w 256, 3) := by decide +kernel
theorem dX6_lots_98 : decode cX6_lots 98 = .ok (.iand, 1) := by decide +kernel
theorem dX6_lots_99 : decode cX6_lots 99 = .ok (.sipush 256, 3) := by decide +kernel
theorem dX6_lots_102 : decode cX6_lots 102 = .ok (.idiv, 1) := by decide +kernel
theorem dX6_lots_103 : decode cX6_lots 103 = .ok (.sipush 255, 3) := by decide +kernel
theorem dX6_lots_106 : decode cX6_lots 106 = .ok (.irem, 1) := by decide +kernel
theorem dX6_lots_107 : decode cX6_lots 107 = .ok (.istore 10, 2) := by decide +kernel
theorem dX6_lots_109 : decode cX6_lots 109 = .ok (.aload_n 0, 1) := by decide +kernel
theorem dX6_lots_110 : decode cX6_lots 110 = .ok (.aload_n 0, 1) := by decide +kernel
theorem dX6_lots_111 : decode cX6_lots 111 = .ok (.getfield 16, 3) := by decide +kernel
theorem dX6_lots_114 : decode cX6_lots 114 = .ok (.iconst 1, 1) := by decide +kernel
theorem dX6_lots_115 : decode cX6_lots 115 = .ok (.iload 10, 2) := by decide +kernel
theorem dX6_lots_117 : decode cX6_lots 117 = .ok (.iadd, 1) := by decide +kernel
theorem dX6_lots_118 : decode cX6_lots 118 = .ok (.invokevirtual 246, 3) := by decide +kernel
theorem dX6_lots_121 : decode cX6_lots 121 = .ok (.iload 5, 2) := by decide +kernel
theorem dX6_lots_123 : decode cX6_lots 123 = .ok (.if_icmp .ne 6, 3) := by decide +kernel
theorem dX6_lots_126 : decode cX6_lots 126 = .ok (.iinc 7 1, 3) := by decide +kernel
theorem dX6_lots_129 : decode cX6_lots 129 = .ok (.iinc 9 1, 3) := by decide +kernel
theorem dX6_lots_132 : decode cX6_lots 132 = .ok (.goto (-56), 3) := by decide +kernel
theorem dX6_lots_135 : decode cX6_lots 135 = .ok (.iinc 8 1, 3) := by decide +kernel
theorem dX6_lots_138 : decode cX6_lots 138 = .ok (.goto (-82), 3) := by decide +kernel
theorem dX6_lots_141 : decode cX6_lots 141 = .ok (.iload 7, 2) := by decide +kernel
theorem dX6_lots_143 : decode cX6_lots 143 = .ok (.ireturn, 1) := by decide +kernel
theorem dX6_row_0 : decode cX6_row 0 = .ok (.aload_n 0, 1) := by decide +kernel
theorem dX6_row_1 : decode cX6_row 1 = .ok (.aload_n 0, 1) := by decide +kernel
theorem dX6_row_2 : decode cX6_row 2 = .ok (.getfield 45, 3) := by decide +kernel
theorem dX6_row_5 : decode cX6_row 5 = .ok (.iload_n 1, 1) := by decide +kernel
theorem dX6_row_6 : decode cX6_row 6 = .ok (.invokevirtual 52, 3) := by decide +kernel
theorem dX6_row_9 : decode cX6_row 9 = .ok (.ireturn, 1) := by decide +kernel
theorem dX6_clear_0 : decode cX6_clear 0 = .ok (.aload_n 0, 1) := by decide +kernel
theorem dX6_clear_1 : decode cX6_clear 1 = .ok (.getfield 45, 3) := by decide +kernel
theorem dX6_clear_4 : decode cX6_clear 4 = .ok (.getfield 257, 3) := by decide +kernel
theorem dX6_clear_7 : decode cX6_clear 7 = .ok (.istore_n 1, 1) := by decide +kernel
theorem dX6_clear_8 : decode cX6_clear 8 = .ok (.aload_n 0, 1) := by decide +kernel
theorem dX6_clear_9 : decode cX6_clear 9 = .ok (.getfield 45, 3) := by decide +kernel
theorem dX6_clear_12 : decode cX6_clear 12 = .ok (.invokevirtual 66, 3) := by decide +kernel
theorem dX6_clear_15 : decode cX6_clear 15 = .ok (.iload_n 1, 1) := by decide +kernel
theorem dX6_clear_16 : decode cX6_clear 16 = .ok (.ireturn, 1) := by decide +kernel
theorem dX6_which_0 : decode cX6_which 0 = .ok (.iload_n 1, 1) := by decide +kernel
theorem dX6_which_1 : decode cX6_which 1 = .ok (.iconst 2, 1) := by decide +kernel
theorem dX6_which_2 : decode cX6_which 2 = .ok (.invokestatic 69, 3) := by decide +kernel
theorem dX6_which_5 : decode cX6_which 5 = .ok (.ifCond .ne 10, 3) := by decide +kernel
theorem dX6_which_8 : decode cX6_which 8 = .ok (.aload_n 0, 1) := by decide +kernel
theorem dX6_which_9 : decode cX6_which 9 = .ok (.bipush (-2), 2) := by decide +kernel
theorem dX6_which_11 : decode cX6_which 11 = .ok (.invokevirtual 73, 3) := by decide +kernel
theorem dX6_which_14 : decode cX6_which 14 = .ok (.ireturn, 1) := by decide +kernel
theorem dX6_which_15 : decode cX6_which 15 = .ok (.aload_n 0, 1) := by decide +kernel
theorem dX6_which_16 : decode cX6_which 16 = .ok (.invokevirtual 260, 3) := by decide +kernel
theorem dX6_which_19 : decode cX6_which 19 = .ok (.ifCond .ne 10, 3) := by decide +kernel
theorem dX6_which_22 : decode cX6_which 22 = .ok (.aload_n 0, 1) := by decide +kernel
theorem dX6_which_23 : decode cX6_which 23 = .ok (.bipush (-3), 2) := by decide +kernel
theorem dX6_which_25 : decode cX6_which 25 = .ok (.invokevirtual 73, 3) := by decide +kernel
theorem dX6_which_28 : decode cX6_which 28 = .ok (.ireturn, 1) := by decide +kernel
theorem dX6_which_29 : decode cX6_which 29 = .ok (.iconst 0, 1) := by decide +kernel
theorem dX6_which_30 : decode cX6_which 30 = .ok (.istore_n 2, 1) := by decide +kernel
theorem dX6_which_31 : decode cX6_which 31 = .ok (.iload_n 1, 1) := by decide +kernel
theorem dX6_which_32 : decode cX6_which 32 = .ok (.ifCond .ne 7, 3) := by decide +kernel
theorem dX6_which_35 : decode cX6_which 35 = .ok (.iconst 4, 1) := by decide +kernel
theorem dX6_which_36 : decode cX6_which 36 = .ok (.goto 5, 3) := by decide +kernel
theorem dX6_which_39 : decode cX6_which 39 = .ok (.bipush 11, 2) := by decide +kernel
theorem dX6_which_41 : decode cX6_which 41 = .ok (.istore_n 3, 1) := by decide +kernel
theorem dX6_which_42 : decode cX6_which 42 = .ok (.iconst 0, 1) := by decide +kernel
theorem dX6_which_43 : decode cX6_which 43 = .ok (.istore 4, 2) := by decide +kernel
theorem dX6_which_45 : decode cX6_which 45 = .ok (.iload 4, 2) := by decide +kernel
theorem dX6_which_47 : decode cX6_which 47 = .ok (.iload_n 3, 1) := by decide +kernel
theorem dX6_which_48 : decode cX6_which 48 = .ok (.if_icmp .ge 56, 3) := by decide +kernel
theorem dX6_which_51 : decode cX6_which 51 = .ok (.iload_n 1, 1) := by decide +kernel
theorem dX6_which_52 : decode cX6_which 52 = .ok (.ifCond .ne 19, 3) := by decide +kernel
theorem dX6_which_55 : decode cX6_which 55 = .ok (.aload_n 0, 1) := by decide +kernel
theorem dX6_which_56 : decode cX6_which 56 = .ok (.iload 4, 2) := by decide +kernel
theorem dX6_which_58 : decode cX6_which 58 = .ok (.aload_n 0, 1) := by decide +kernel
theorem dX6_which_59 : decode cX6_which 59 = .ok (.getfield 10, 3) := by decide +kernel
theorem dX6_which_62 : decode cX6_which 62 = .ok (.getfield 140, 3) := by decide +kernel
theorem dX6_which_65 : decode cX6_which 65 = .ok (.invokevirtual 264, 3) := by decide +kernel
theorem dX6_which_68 : decode cX6_which 68 = .ok (.goto 16, 3) := by decide +kernel
theorem dX6_which_71 : decode cX6_which 71 = .ok (.aload_n 0, 1) := by decide +kernel
theorem dX6_which_72 : decode cX6_which 72 = .ok (.aload_n 0, 1) := by decide +kernel
theorem dX6_which_73 : decode cX6_which 73 = .ok (.getfield 10, 3) := by decide +kernel
theorem dX6_which_76 : decode cX6_which 76 = .ok (.getfield 133, 3) := by decide +kernel
theorem dX6_which_79 : decode cX6_which 79 = .ok (.iload 4, 2) := by decide +kernel
theorem dX6_which_81 : decode cX6_which 81 = .ok (.invokevirtual 264, 3) := by decide +kernel
theorem dX6_which_84 : decode cX6_which 84 = .ok (.istore 5, 2) := by decide +kernel
theorem dX6_which_86 : decode cX6_which 86 = .ok (.iload 5, 2) := by decide +kernel
theorem dX6_which_88 : decode cX6_which 88 = .ok (.ifCond .eq 10, 3) := by decide +kernel
theorem dX6_which_91 : decode cX6_which 91 = .ok (.iload_n 2, 1) := by decide +kernel
theorem dX6_which_92 : decode cX6_which 92 = .ok (.iconst 1, 1) := by decide +kernel
theorem dX6_which_93 : decode cX6_which 93 = .ok (.iload 4, 2) := by decide +kernel
theorem dX6_which_95 : decode cX6_which 95 = .ok (.ishl, 1) := by decide +kernel
theorem dX6_which_96 : decode cX6_which 96 = .ok (.ior, 1) := by decide +kernel
theorem dX6_which_97 : decode cX6_which 97 = .ok (.istore_n 2, 1) := by decide +kernel
theorem dX6_which_98 : decode cX6_which 98 = .ok (.iinc 4 1, 3) := by decide +kernel
theorem dX6_which_101 : decode cX6_which 101 = .ok (.goto (-56), 3) := by decide +kernel
theorem dX6_which_104 : decode cX6_which 104 = .ok (.iload_n 2, 1) := by decide +kernel
theorem dX6_which_105 : decode cX6_which 105 = .ok (.ireturn, 1) := by decide +kernel
theorem dX6_isRowOfPairs_0 : decode cX6_isRowOfPairs 0 = .ok (.iconst 0, 1) := by decide +kernel
theorem dX6_isRowOfPairs_1 : decode cX6_isRowOfPairs 1 = .ok (.istore_n 1, 1) := by decide +kernel
theorem dX6_isRowOfPairs_2 : decode cX6_isRowOfPairs 2 = .ok (.iload_n 1, 1) := by decide +kernel
theorem dX6_isRowOfPairs_3 : decode cX6_isRowOfPairs 3 = .ok (.aload_n 0, 1) := by decide +kernel
theorem dX6_isRowOfPairs_4 : decode cX6_isRowOfPairs 4 = .ok (.getfield 45, 3) := by decide +kernel
theorem dX6_isRowOfPairs_7 : decode cX6_isRowOfPairs 7 = .ok (.getfield 257, 3) := by decide +kernel
theorem dX6_isRowOfPairs_10 : decode cX6_isRowOfPairs 10 = .ok (.if_icmp .ge 22, 3) := by decide +kernel
theorem dX6_isRowOfPairs_13 : decode cX6_isRowOfPairs 13 = .ok (.aload_n 0, 1) := by decide +kernel
theorem dX6_isRowOfPairs_14 : decode cX6_isRowOfPairs 14 = .ok (.getfield 45, 3) := by decide +kernel
theorem dX6_isRowOfPairs_17 : decode cX6_isRowOfPairs 17 = .ok (.iload_n 1, 1) := by decide +kernel
theorem dX6_isRowOfPairs_18 : decode cX6_isRowOfPairs 18 = .ok (.invokevirtual 267, 3) := by decide +kernel
theorem dX6_isRowOfPairs_21 : decode cX6_isRowOfPairs 21 = .ok (.ifCond .ne 5, 3) := by decide +kernel
theorem dX6_isRowOfPairs_24 : decode cX6_isRowOfPairs 24 = .ok (.iconst 0, 1) := by decide +kernel
theorem dX6_isRowOfPairs_25 : decode cX6_isRowOfPairs 25 = .ok (.ireturn, 1) := by decide +kernel
theorem dX6_isRowOfPairs_26 : decode cX6_isRowOfPairs 26 = .ok (.iinc 1 2, 3) := by decide +kernel
theorem dX6_isRowOfPairs_29 : decode cX6_isRowOfPairs 29 = .ok (.goto (-27), 3) := by decide +kernel
theorem dX6_isRowOfPairs_32 : decode cX6_isRowOfPairs 32 = .ok (.aload_n 0, 1) := by decide +kernel
theorem dX6_isRowOfPairs_33 : decode cX6_isRowOfPairs 33 = .ok (.getfield 45, 3) := by decide +kernel
theorem dX6_isRowOfPairs_36 : decode cX6_isRowOfPairs 36 = .ok (.getfield 257, 3) := by decide +kernel
theorem dX6_isRowOfPairs_39 : decode cX6_isRowOfPairs 39 = .ok (.iconst 2, 1) := by decide +kernel
theorem dX6_isRowOfPairs_40 : decode cX6_isRowOfPairs 40 = .ok (.irem, 1) := by decide +kernel
theorem dX6_isRowOfPairs_41 : decode cX6_isRowOfPairs 41 = .ok (.ifCond .ne 7, 3) := by decide +kernel
theorem dX6_isRowOfPairs_44 : decode cX6_isRowOfPairs 44 = .ok (.iconst 1, 1) := by decide +kernel
theorem dX6_isRowOfPairs_45 : decode cX6_isRowOfPairs 45 = .ok (.goto 4, 3) := by decide +kernel
theorem dX6_isRowOfPairs_48 : decode cX6_isRowOfPairs 48 = .ok (.iconst 0, 1) := by decide +kernel
theorem dX6_isRowOfPairs_49 : decode cX6_isRowOfPairs 49 = .ok (.ireturn, 1) := by decide +kernel
theorem dX6_isMetBy_0 : decode cX6_isMetBy 0 = .ok (.iconst 0, 1) := by decide +kernel
theorem dX6_isMetBy_1 : decode cX6_isMetBy 1 = .ok (.istore_n 3, 1) := by decide +kernel
theorem dX6_isMetBy_2 : decode cX6_isMetBy 2 = .ok (.iload_n 3, 1) := by decide +kernel
theorem dX6_isMetBy_3 : decode cX6_isMetBy 3 = .ok (.aload_n 0, 1) := by decide +kernel
theorem dX6_isMetBy_4 : decode cX6_isMetBy 4 = .ok (.getfield 45, 3) := by decide +kernel
theorem dX6_isMetBy_7 : decode cX6_isMetBy 7 = .ok (.getfield 257, 3) := by decide +kernel
theorem dX6_isMetBy_10 : decode cX6_isMetBy 10 = .ok (.if_icmp .ge 54, 3) := by decide +kernel
theorem dX6_isMetBy_13 : decode cX6_isMetBy 13 = .ok (.aload_n 0, 1) := by decide +kernel
theorem dX6_isMetBy_14 : decode cX6_isMetBy 14 = .ok (.getfield 25, 3) := by decide +kernel
theorem dX6_isMetBy_17 : decode cX6_isMetBy 17 = .ok (.iconst 0, 1) := by decide +kernel
theorem dX6_isMetBy_18 : decode cX6_isMetBy 18 = .ok (.aload_n 0, 1) := by decide +kernel
theorem dX6_isMetBy_19 : decode cX6_isMetBy 19 = .ok (.getfield 45, 3) := by decide +kernel
theorem dX6_isMetBy_22 : decode cX6_isMetBy 22 = .ok (.iload_n 3, 1) := by decide +kernel
theorem dX6_isMetBy_23 : decode cX6_isMetBy 23 = .ok (.invokevirtual 267, 3) := by decide +kernel
theorem dX6_isMetBy_26 : decode cX6_isMetBy 26 = .ok (.iconst 0, 1) := by decide +kernel
theorem dX6_isMetBy_27 : decode cX6_isMetBy 27 = .ok (.invokevirtual 150, 3) := by decide +kernel
theorem dX6_isMetBy_30 : decode cX6_isMetBy 30 = .ok (.aload_n 0, 1) := by decide +kernel
theorem dX6_isMetBy_31 : decode cX6_isMetBy 31 = .ok (.getfield 10, 3) := by decide +kernel
theorem dX6_isMetBy_34 : decode cX6_isMetBy 34 = .ok (.aload_n 0, 1) := by decide +kernel
theorem dX6_isMetBy_35 : decode cX6_isMetBy 35 = .ok (.getfield 25, 3) := by decide +kernel
theorem dX6_isMetBy_38 : decode cX6_isMetBy 38 = .ok (.iload_n 1, 1) := by decide +kernel
theorem dX6_isMetBy_39 : decode cX6_isMetBy 39 = .ok (.iload_n 2, 1) := by decide +kernel
theorem dX6_isMetBy_40 : decode cX6_isMetBy 40 = .ok (.invokevirtual 161, 3) := by decide +kernel
theorem dX6_isMetBy_43 : decode cX6_isMetBy 43 = .ok (.aload_n 0, 1) := by decide +kernel
theorem dX6_isMetBy_44 : decode cX6_isMetBy 44 = .ok (.getfield 45, 3) := by decide +kernel
theorem dX6_isMetBy_47 : decode cX6_isMetBy 47 = .ok (.iload_n 3, 1) := by decide +kernel
theorem dX6_isMetBy_48 : decode cX6_isMetBy 48 = .ok (.iconst 1, 1) := by decide +kernel
theorem dX6_isMetBy_49 : decode cX6_isMetBy 49 = .ok (.iadd, 1) := by decide +kernel
theorem dX6_isMetBy_50 : decode cX6_isMetBy 50 = .ok (.invokevirtual 267, 3) := by decide +kernel
theorem dX6_isMetBy_53 : decode cX6_isMetBy 53 = .ok (.if_icmp .eq 5, 3) := by decide +kernel
theorem dX6_isMetBy_56 : decode cX6_isMetBy 56 = .ok (.iconst 0, 1) := by decide +kernel
theorem dX6_isMetBy_57 : decode cX6_isMetBy 57 = .ok (.ireturn, 1) := by decide +kernel
theorem dX6_isMetBy_58 : decode cX6_isMetBy 58 = .ok (.iinc 3 2, 3) := by decide +kernel
theorem dX6_isMetBy_61 : decode cX6_isMetBy 61 = .ok (.goto (-59), 3) := by decide +kernel
theorem dX6_isMetBy_64 : decode cX6_isMetBy 64 = .ok (.iconst 1, 1) := by decide +kernel
theorem dX6_isMetBy_65 : decode cX6_isMetBy 65 = .ok (.ireturn, 1) := by decide +kernel
theorem dX6_judge_0 : decode cX6_judge 0 = .ok (.bipush (-9), 2) := by decide +kernel
theorem dX6_judge_2 : decode cX6_judge 2 = .ok (.istore_n 1, 1) := by decide +kernel
theorem dX6_judge_3 : decode cX6_judge 3 = .ok (.aload_n 0, 1) := by decide +kernel
theorem dX6_judge_4 : decode cX6_judge 4 = .ok (.getfield 10, 3) := by decide +kernel
theorem dX6_judge_7 : decode cX6_judge 7 = .ok (.getfield 176, 3) := by decide +kernel
theorem dX6_judge_10 : decode cX6_judge 10 = .ok (.iconst 1, 1) := by decide +kernel
theorem dX6_judge_11 : decode cX6_judge 11 = .ok (.isub, 1) := by decide +kernel
theorem dX6_judge_12 : decode cX6_judge 12 = .ok (.istore_n 2, 1) := by decide +kernel
theorem dX6_judge_13 : decode cX6_judge 13 = .ok (.iload_n 2, 1) := by decide +kernel
theorem dX6_judge_14 : decode cX6_judge 14 = .ok (.ifCond .lt 34, 3) := by decide +kernel
theorem dX6_judge_17 : decode cX6_judge 17 = .ok (.aload_n 0, 1) := by decide +kernel
theorem dX6_judge_18 : decode cX6_judge 18 = .ok (.getfield 10, 3) := by decide +kernel
theorem dX6_judge_21 : decode cX6_judge 21 = .ok (.iload_n 2, 1) := by decide +kernel
theorem dX6_judge_22 : decode cX6_judge 22 = .ok (.aload_n 0, 1) := by decide +kernel
theorem dX6_judge_23 : decode cX6_judge 23 = .ok (.getfield 45, 3) := by decide +kernel
theorem dX6_judge_26 : decode cX6_judge 26 = .ok (.invokevirtual 270, 3) := by decide +kernel
theorem dX6_judge_29 : decode cX6_judge 29 = .ok (.aload_n 0, 1) := by decide +kernel
theorem dX6_judge_30 : decode cX6_judge 30 = .ok (.getfield 10, 3) := by decide +kernel
theorem dX6_judge_33 : decode cX6_judge 33 = .ok (.iload_n 2, 1) := by decide +kernel
theorem dX6_judge_34 : decode cX6_judge 34 = .ok (.invokevirtual 184, 3) := by decide +kernel
theorem dX6_judge_37 : decode cX6_judge 37 = .ok (.if_icmp .eq 5, 3) := by decide +kernel
theorem dX6_judge_40 : decode cX6_judge 40 = .ok (.iload_n 2, 1) := by decide +kernel
theorem dX6_judge_41 : decode cX6_judge 41 = .ok (.istore_n 1, 1) := by decide +kernel
theorem dX6_judge_42 : decode cX6_judge 42 = .ok (.iinc 2 (-1), 3) := by decide +kernel
theorem dX6_judge_45 : decode cX6_judge 45 = .ok (.goto (-32), 3) := by decide +kernel
theorem dX6_judge_48 : decode cX6_judge 48 = .ok (.aload_n 0, 1) := by decide +kernel
theorem dX6_judge_49 : decode cX6_judge 49 = .ok (.getfield 45, 3) := by decide +kernel
theorem dX6_judge_52 : decode cX6_judge 52 = .ok (.invokevirtual 66, 3) := by decide +kernel
theorem dX6_judge_55 : decode cX6_judge 55 = .ok (.iload_n 1, 1) := by decide +kernel
theorem dX6_judge_56 : decode cX6_judge 56 = .ok (.ireturn, 1) := by decide +kernel
theorem dX6_image_0 : decode cX6_image 0 = .ok (.aload_n 0, 1) := by decide +kernel
theorem dX6_image_1 : decode cX6_image 1 = .ok (.getfield 19, 3) := by decide +kernel
theorem dX6_image_4 : decode cX6_image 4 = .ok (.aload_n 0, 1) := by decide +kernel
theorem dX6_image_5 : decode cX6_image 5 = .ok (.getfield 10, 3) := by decide +kernel
theorem dX6_image_8 : decode cX6_image 8 = .ok (.invokevirtual 56, 3) := by decide +kernel
theorem dX6_image_11 : decode cX6_image 11 = .ok (.aload_n 0, 1) := by decide +kernel
theorem dX6_image_12 : decode cX6_image 12 = .ok (.iconst 1, 1) := by decide +kernel
theorem dX6_image_13 : decode cX6_image 13 = .ok (.putfield 274, 3) := by decide +kernel
theorem dX6_image_16 : decode cX6_image 16 = .ok (.aload_n 0, 1) := by decide +kernel
theorem dX6_image_17 : decode cX6_image 17 = .ok (.getfield 10, 3) := by decide +kernel
theorem dX6_image_20 : decode cX6_image 20 = .ok (.getfield 176, 3) := by decide +kernel
theorem dX6_image_23 : decode cX6_image 23 = .ok (.ireturn, 1) := by decide +kernel
theorem dX6_on_0 : decode cX6_on 0 = .ok (.aload_n 0, 1) := by decide +kernel
theorem dX6_on_1 : decode cX6_on 1 = .ok (.getfield 274, 3) := by decide +kernel
theorem dX6_on_4 : decode cX6_on 4 = .ok (.ifCond .ne 10, 3) := by decide +kernel
theorem dX6_on_7 : decode cX6_on 7 = .ok (.aload_n 0, 1) := by decide +kernel
theorem dX6_on_8 : decode cX6_on 8 = .ok (.bipush (-3), 2) := by decide +kernel
theorem dX6_on_10 : decode cX6_on 10 = .ok (.invokevirtual 73, 3) := by decide +kernel
theorem dX6_on_13 : decode cX6_on 13 = .ok (.ireturn, 1) := by decide +kernel
theorem dX6_on_14 : decode cX6_on 14 = .ok (.aload_n 0, 1) := by decide +kernel
theorem dX6_on_15 : decode cX6_on 15 = .ok (.getfield 10, 3) := by decide +kernel
theorem dX6_on_18 : decode cX6_on 18 = .ok (.aload_n 0, 1) := by decide +kernel
theorem dX6_on_19 : decode cX6_on 19 = .ok (.getfield 19, 3) := by decide +kernel
theorem dX6_on_22 : decode cX6_on 22 = .ok (.invokevirtual 56, 3) := by decide +kernel
theorem dX6_on_25 : decode cX6_on 25 = .ok (.aload_n 0, 1) := by decide +kernel
theorem dX6_on_26 : decode cX6_on 26 = .ok (.getfield 10, 3) := by decide +kernel
theorem dX6_on_29 : decode cX6_on 29 = .ok (.getfield 176, 3) := by decide +kernel
theorem dX6_on_32 : decode cX6_on 32 = .ok (.ireturn, 1) := by decide +kernel
theorem dX6_count_0 : decode cX6_count 0 = .ok (.iload_n 1, 1) := by decide +kernel
theorem dX6_count_1 : decode cX6_count 1 = .ok (.tableswitch 111 0 7 #[47, 55, 63, 71, 79, 87, 95, 103], 47) := by decide +kernel
theorem dX6_count_48 : decode cX6_count 48 = .ok (.aload_n 0, 1) := by decide +kernel
theorem dX6_count_49 : decode cX6_count 49 = .ok (.getfield 10, 3) := by decide +kernel
theorem dX6_count_52 : decode cX6_count 52 = .ok (.getfield 176, 3) := by decide +kernel
theorem dX6_count_55 : decode cX6_count 55 = .ok (.ireturn, 1) := by decide +kernel
theorem dX6_count_56 : decode cX6_count 56 = .ok (.aload_n 0, 1) := by decide +kernel
theorem dX6_count_57 : decode cX6_count 57 = .ok (.getfield 10, 3) := by decide +kernel
theorem dX6_count_60 : decode cX6_count 60 = .ok (.getfield 221, 3) := by decide +kernel
theorem dX6_count_63 : decode cX6_count 63 = .ok (.ireturn, 1) := by decide +kernel
theorem dX6_count_64 : decode cX6_count 64 = .ok (.aload_n 0, 1) := by decide +kernel
theorem dX6_count_65 : decode cX6_count 65 = .ok (.getfield 10, 3) := by decide +kernel
theorem dX6_count_68 : decode cX6_count 68 = .ok (.getfield 133, 3) := by decide +kernel
theorem dX6_count_71 : decode cX6_count 71 = .ok (.ireturn, 1) := by decide +kernel
theorem dX6_count_72 : decode cX6_count 72 = .ok (.aload_n 0, 1) := by decide +kernel
theorem dX6_count_73 : decode cX6_count 73 = .ok (.getfield 10, 3) := by decide +kernel
theorem dX6_count_76 : decode cX6_count 76 = .ok (.getfield 140, 3) := by decide +kernel
theorem dX6_count_79 : decode cX6_count 79 = .ok (.ireturn, 1) := by decide +kernel
theorem dX6_count_80 : decode cX6_count 80 = .ok (.aload_n 0, 1) := by decide +kernel
theorem dX6_count_81 : decode cX6_count 81 = .ok (.getfield 10, 3) := by decide +kernel
theorem dX6_count_84 : decode cX6_count 84 = .ok (.invokevirtual 278, 3) := by decide +kernel
theorem dX6_count_87 : decode cX6_count 87 = .ok (.ireturn, 1) := by decide +kernel
theorem dX6_count_88 : decode cX6_count 88 = .ok (.aload_n 0, 1) := by decide +kernel
theorem dX6_count_89 : decode cX6_count 89 = .ok (.getfield 10, 3) := by decide +kernel
theorem dX6_count_92 : decode cX6_count 92 = .ok (.invokevirtual 281, 3) := by decide +kernel
theorem dX6_count_95 : decode cX6_count 95 = .ok (.ireturn, 1) := by decide +kernel
