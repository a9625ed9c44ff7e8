theorem dX7_statement_29 : decode cX7_statement 29 = .ok (.iload_n 1, 1) := by decide +kernel
theorem dX7_statement_30 : decode cX7_statement 30 = .ok (.bipush 108, 2) := by decide +kernel
theorem dX7_statement_32 : decode cX7_statement 32 = .ok (.if_icmp .eq 23, 3) := by decide +kernel
theorem dX7_statement_35 : decode cX7_statement 35 = .ok (.iload_n 1, 1) := by decide +kernel
theorem dX7_statement_36 : decode cX7_statement 36 = .ok (.bipush 115, 2) := by decide +kernel
theorem dX7_statement_38 : decode cX7_statement 38 = .ok (.if_icmp .eq 17, 3) := by decide +kernel
theorem dX7_statement_41 : decode cX7_statement 41 = .ok (.iload_n 1, 1) := by decide +kernel
theorem dX7_statement_42 : decode cX7_statement 42 = .ok (.bipush 100, 2) := by decide +kernel
theorem dX7_statement_44 : decode cX7_statement 44 = .ok (.if_icmp .eq 11, 3) := by decide +kernel
theorem dX7_statement_47 : decode cX7_statement 47 = .ok (.iload_n 1, 1) := by decide +kernel
theorem dX7_statement_48 : decode cX7_statement 48 = .ok (.bipush 119, 2) := by decide +kernel
theorem dX7_statement_50 : decode cX7_statement 50 = .ok (.if_icmp .eq 5, 3) := by decide +kernel
theorem dX7_statement_53 : decode cX7_statement 53 = .ok (.iconst 0, 1) := by decide +kernel
theorem dX7_statement_54 : decode cX7_statement 54 = .ok (.ireturn, 1) := by decide +kernel
theorem dX7_statement_55 : decode cX7_statement 55 = .ok (.aload_n 0, 1) := by decide +kernel
theorem dX7_statement_56 : decode cX7_statement 56 = .ok (.getfield 56, 3) := by decide +kernel
theorem dX7_statement_59 : decode cX7_statement 59 = .ok (.aload_n 0, 1) := by decide +kernel
theorem dX7_statement_60 : decode cX7_statement 60 = .ok (.getfield 238, 3) := by decide +kernel
theorem dX7_statement_63 : decode cX7_statement 63 = .ok (.iload_n 1, 1) := by decide +kernel
theorem dX7_statement_64 : decode cX7_statement 64 = .ok (.iastore, 1) := by decide +kernel
theorem dX7_statement_65 : decode cX7_statement 65 = .ok (.aload_n 0, 1) := by decide +kernel
theorem dX7_statement_66 : decode cX7_statement 66 = .ok (.getfield 59, 3) := by decide +kernel
theorem dX7_statement_69 : decode cX7_statement 69 = .ok (.aload_n 0, 1) := by decide +kernel
theorem dX7_statement_70 : decode cX7_statement 70 = .ok (.getfield 238, 3) := by decide +kernel
theorem dX7_statement_73 : decode cX7_statement 73 = .ok (.aload_n 0, 1) := by decide +kernel
theorem dX7_statement_74 : decode cX7_statement 74 = .ok (.getfield 223, 3) := by decide +kernel
theorem dX7_statement_77 : decode cX7_statement 77 = .ok (.iastore, 1) := by decide +kernel
theorem dX7_statement_78 : decode cX7_statement 78 = .ok (.aload_n 0, 1) := by decide +kernel
theorem dX7_statement_79 : decode cX7_statement 79 = .ok (.bipush 9, 2) := by decide +kernel
theorem dX7_statement_81 : decode cX7_statement 81 = .ok (.aload_n 0, 1) := by decide +kernel
theorem dX7_statement_82 : decode cX7_statement 82 = .ok (.getfield 238, 3) := by decide +kernel
theorem dX7_statement_85 : decode cX7_statement 85 = .ok (.imul, 1) := by decide +kernel
theorem dX7_statement_86 : decode cX7_statement 86 = .ok (.putfield 229, 3) := by decide +kernel
theorem dX7_statement_89 : decode cX7_statement 89 = .ok (.aload_n 0, 1) := by decide +kernel
theorem dX7_statement_90 : decode cX7_statement 90 = .ok (.dup, 1) := by decide +kernel
theorem dX7_statement_91 : decode cX7_statement 91 = .ok (.getfield 223, 3) := by decide +kernel
theorem dX7_statement_94 : decode cX7_statement 94 = .ok (.iconst 1, 1) := by decide +kernel
theorem dX7_statement_95 : decode cX7_statement 95 = .ok (.iadd, 1) := by decide +kernel
theorem dX7_statement_96 : decode cX7_statement 96 = .ok (.putfield 223, 3) := by decide +kernel
theorem dX7_statement_99 : decode cX7_statement 99 = .ok (.aload_n 0, 1) := by decide +kernel
theorem dX7_statement_100 : decode cX7_statement 100 = .ok (.iload_n 1, 1) := by decide +kernel
theorem dX7_statement_101 : decode cX7_statement 101 = .ok (.invokevirtual 241, 3) := by decide +kernel
theorem dX7_statement_104 : decode cX7_statement 104 = .ok (.ifCond .eq 12, 3) := by decide +kernel
theorem dX7_statement_107 : decode cX7_statement 107 = .ok (.aload_n 0, 1) := by decide +kernel
theorem dX7_statement_108 : decode cX7_statement 108 = .ok (.invokevirtual 226, 3) := by decide +kernel
theorem dX7_statement_111 : decode cX7_statement 111 = .ok (.bipush 59, 2) := by decide +kernel
theorem dX7_statement_113 : decode cX7_statement 113 = .ok (.if_icmp .eq 5, 3) := by decide +kernel
theorem dX7_statement_116 : decode cX7_statement 116 = .ok (.iconst 0, 1) := by decide +kernel
theorem dX7_statement_117 : decode cX7_statement 117 = .ok (.ireturn, 1) := by decide +kernel
theorem dX7_statement_118 : decode cX7_statement 118 = .ok (.aload_n 0, 1) := by decide +kernel
theorem dX7_statement_119 : decode cX7_statement 119 = .ok (.dup, 1) := by decide +kernel
theorem dX7_statement_120 : decode cX7_statement 120 = .ok (.getfield 223, 3) := by decide +kernel
theorem dX7_statement_123 : decode cX7_statement 123 = .ok (.iconst 1, 1) := by decide +kernel
theorem dX7_statement_124 : decode cX7_statement 124 = .ok (.iadd, 1) := by decide +kernel
theorem dX7_statement_125 : decode cX7_statement 125 = .ok (.putfield 223, 3) := by decide +kernel
theorem dX7_statement_128 : decode cX7_statement 128 = .ok (.iconst 1, 1) := by decide +kernel
theorem dX7_statement_129 : decode cX7_statement 129 = .ok (.ireturn, 1) := by decide +kernel
theorem dX7_isTold_0 : decode cX7_isTold 0 = .ok (.aload_n 0, 1) := by decide +kernel
theorem dX7_isTold_1 : decode cX7_isTold 1 = .ok (.getfield 13, 3) := by decide +kernel
theorem dX7_isTold_4 : decode cX7_isTold 4 = .ok (.aload_n 0, 1) := by decide +kernel
theorem dX7_isTold_5 : decode cX7_isTold 5 = .ok (.getfield 22, 3) := by decide +kernel
theorem dX7_isTold_8 : decode cX7_isTold 8 = .ok (.iload_n 1, 1) := by decide +kernel
theorem dX7_isTold_9 : decode cX7_isTold 9 = .ok (.iaload, 1) := by decide +kernel
theorem dX7_isTold_10 : decode cX7_isTold 10 = .ok (.iload_n 2, 1) := by decide +kernel
theorem dX7_isTold_11 : decode cX7_isTold 11 = .ok (.iastore, 1) := by decide +kernel
theorem dX7_isTold_12 : decode cX7_isTold 12 = .ok (.aload_n 0, 1) := by decide +kernel
theorem dX7_isTold_13 : decode cX7_isTold 13 = .ok (.getfield 16, 3) := by decide +kernel
theorem dX7_isTold_16 : decode cX7_isTold 16 = .ok (.aload_n 0, 1) := by decide +kernel
theorem dX7_isTold_17 : decode cX7_isTold 17 = .ok (.getfield 22, 3) := by decide +kernel
theorem dX7_isTold_20 : decode cX7_isTold 20 = .ok (.iload_n 1, 1) := by decide +kernel
theorem dX7_isTold_21 : decode cX7_isTold 21 = .ok (.iaload, 1) := by decide +kernel
theorem dX7_isTold_22 : decode cX7_isTold 22 = .ok (.iconst 0, 1) := by decide +kernel
theorem dX7_isTold_23 : decode cX7_isTold 23 = .ok (.iastore, 1) := by decide +kernel
theorem dX7_isTold_24 : decode cX7_isTold 24 = .ok (.aload_n 0, 1) := by decide +kernel
theorem dX7_isTold_25 : decode cX7_isTold 25 = .ok (.getfield 19, 3) := by decide +kernel
theorem dX7_isTold_28 : decode cX7_isTold 28 = .ok (.aload_n 0, 1) := by decide +kernel
theorem dX7_isTold_29 : decode cX7_isTold 29 = .ok (.getfield 22, 3) := by decide +kernel
theorem dX7_isTold_32 : decode cX7_isTold 32 = .ok (.iload_n 1, 1) := by decide +kernel
theorem dX7_isTold_33 : decode cX7_isTold 33 = .ok (.iaload, 1) := by decide +kernel
theorem dX7_isTold_34 : decode cX7_isTold 34 = .ok (.bipush 99, 2) := by decide +kernel
theorem dX7_isTold_36 : decode cX7_isTold 36 = .ok (.iastore, 1) := by decide +kernel
theorem dX7_isTold_37 : decode cX7_isTold 37 = .ok (.return_, 1) := by decide +kernel
theorem dX7_comesTold_0 : decode cX7_comesTold 0 = .ok (.iload_n 1, 1) := by decide +kernel
theorem dX7_comesTold_1 : decode cX7_comesTold 1 = .ok (.invokestatic 244, 3) := by decide +kernel
theorem dX7_comesTold_4 : decode cX7_comesTold 4 = .ok (.ifCond .eq 16, 3) := by decide +kernel
theorem dX7_comesTold_7 : decode cX7_comesTold 7 = .ok (.aload_n 0, 1) := by decide +kernel
theorem dX7_comesTold_8 : decode cX7_comesTold 8 = .ok (.aload_n 0, 1) := by decide +kernel
theorem dX7_comesTold_9 : decode cX7_comesTold 9 = .ok (.getfield 22, 3) := by decide +kernel
theorem dX7_comesTold_12 : decode cX7_comesTold 12 = .ok (.iload_n 1, 1) := by decide +kernel
theorem dX7_comesTold_13 : decode cX7_comesTold 13 = .ok (.iaload, 1) := by decide +kernel
theorem dX7_comesTold_14 : decode cX7_comesTold 14 = .ok (.invokevirtual 247, 3) := by decide +kernel
theorem dX7_comesTold_17 : decode cX7_comesTold 17 = .ok (.ifCond .ne 5, 3) := by decide +kernel
theorem dX7_comesTold_20 : decode cX7_comesTold 20 = .ok (.iconst 0, 1) := by decide +kernel
theorem dX7_comesTold_21 : decode cX7_comesTold 21 = .ok (.ireturn, 1) := by decide +kernel
theorem dX7_comesTold_22 : decode cX7_comesTold 22 = .ok (.aload_n 0, 1) := by decide +kernel
theorem dX7_comesTold_23 : decode cX7_comesTold 23 = .ok (.iload_n 1, 1) := by decide +kernel
theorem dX7_comesTold_24 : decode cX7_comesTold 24 = .ok (.iload_n 2, 1) := by decide +kernel
theorem dX7_comesTold_25 : decode cX7_comesTold 25 = .ok (.invokevirtual 250, 3) := by decide +kernel
theorem dX7_comesTold_28 : decode cX7_comesTold 28 = .ok (.iconst 1, 1) := by decide +kernel
theorem dX7_comesTold_29 : decode cX7_comesTold 29 = .ok (.ireturn, 1) := by decide +kernel
theorem dX7_changesTo_0 : decode cX7_changesTo 0 = .ok (.aload_n 0, 1) := by decide +kernel
theorem dX7_changesTo_1 : decode cX7_changesTo 1 = .ok (.getfield 22, 3) := by decide +kernel
theorem dX7_changesTo_4 : decode cX7_changesTo 4 = .ok (.iload_n 1, 1) := by decide +kernel
theorem dX7_changesTo_5 : decode cX7_changesTo 5 = .ok (.aload_n 0, 1) := by decide +kernel
theorem dX7_changesTo_6 : decode cX7_changesTo 6 = .ok (.getfield 86, 3) := by decide +kernel
theorem dX7_changesTo_9 : decode cX7_changesTo 9 = .ok (.iastore, 1) := by decide +kernel
theorem dX7_changesTo_10 : decode cX7_changesTo 10 = .ok (.aload_n 0, 1) := by decide +kernel
theorem dX7_changesTo_11 : decode cX7_changesTo 11 = .ok (.dup, 1) := by decide +kernel
theorem dX7_changesTo_12 : decode cX7_changesTo 12 = .ok (.getfield 86, 3) := by decide +kernel
theorem dX7_changesTo_15 : decode cX7_changesTo 15 = .ok (.iconst 1, 1) := by decide +kernel
theorem dX7_changesTo_16 : decode cX7_changesTo 16 = .ok (.iadd, 1) := by decide +kernel
theorem dX7_changesTo_17 : decode cX7_changesTo 17 = .ok (.putfield 86, 3) := by decide +kernel
theorem dX7_changesTo_20 : decode cX7_changesTo 20 = .ok (.aload_n 0, 1) := by decide +kernel
theorem dX7_changesTo_21 : decode cX7_changesTo 21 = .ok (.iload_n 1, 1) := by decide +kernel
theorem dX7_changesTo_22 : decode cX7_changesTo 22 = .ok (.iload_n 2, 1) := by decide +kernel
theorem dX7_changesTo_23 : decode cX7_changesTo 23 = .ok (.invokevirtual 250, 3) := by decide +kernel
theorem dX7_changesTo_26 : decode cX7_changesTo 26 = .ok (.return_, 1) := by decide +kernel
theorem dX7_comesChange_0 : decode cX7_comesChange 0 = .ok (.iload_n 1, 1) := by decide +kernel
theorem dX7_comesChange_1 : decode cX7_comesChange 1 = .ok (.invokestatic 244, 3) := by decide +kernel
theorem dX7_comesChange_4 : decode cX7_comesChange 4 = .ok (.ifCond .eq 12, 3) := by decide +kernel
theorem dX7_comesChange_7 : decode cX7_comesChange 7 = .ok (.aload_n 0, 1) := by decide +kernel
theorem dX7_comesChange_8 : decode cX7_comesChange 8 = .ok (.getfield 86, 3) := by decide +kernel
theorem dX7_comesChange_11 : decode cX7_comesChange 11 = .ok (.bipush 10, 2) := by decide +kernel
theorem dX7_comesChange_13 : decode cX7_comesChange 13 = .ok (.if_icmp .ne 5, 3) := by decide +kernel
theorem dX7_comesChange_16 : decode cX7_comesChange 16 = .ok (.iconst 0, 1) := by decide +kernel
theorem dX7_comesChange_17 : decode cX7_comesChange 17 = .ok (.ireturn, 1) := by decide +kernel
theorem dX7_comesChange_18 : decode cX7_comesChange 18 = .ok (.aload_n 0, 1) := by decide +kernel
theorem dX7_comesChange_19 : decode cX7_comesChange 19 = .ok (.iload_n 1, 1) := by decide +kernel
theorem dX7_comesChange_20 : decode cX7_comesChange 20 = .ok (.iload_n 2, 1) := by decide +kernel
theorem dX7_comesChange_21 : decode cX7_comesChange 21 = .ok (.invokevirtual 254, 3) := by decide +kernel
theorem dX7_comesChange_24 : decode cX7_comesChange 24 = .ok (.iconst 1, 1) := by decide +kernel
theorem dX7_comesChange_25 : decode cX7_comesChange 25 = .ok (.ireturn, 1) := by decide +kernel
theorem dX7_comesBounds_0 : decode cX7_comesBounds 0 = .ok (.aload_n 0, 1) := by decide +kernel
theorem dX7_comesBounds_1 : decode cX7_comesBounds 1 = .ok (.iload_n 1, 1) := by decide +kernel
theorem dX7_comesBounds_2 : decode cX7_comesBounds 2 = .ok (.invokevirtual 257, 3) := by decide +kernel
theorem dX7_comesBounds_5 : decode cX7_comesBounds 5 = .ok (.ifCond .eq 17, 3) := by decide +kernel
theorem dX7_comesBounds_8 : decode cX7_comesBounds 8 = .ok (.aload_n 0, 1) := by decide +kernel
theorem dX7_comesBounds_9 : decode cX7_comesBounds 9 = .ok (.getfield 13, 3) := by decide +kernel
theorem dX7_comesBounds_12 : decode cX7_comesBounds 12 = .ok (.iload_n 1, 1) := by decide +kernel
theorem dX7_comesBounds_13 : decode cX7_comesBounds 13 = .ok (.iaload, 1) := by decide +kernel
theorem dX7_comesBounds_14 : decode cX7_comesBounds 14 = .ok (.iload_n 2, 1) := by decide +kernel
theorem dX7_comesBounds_15 : decode cX7_comesBounds 15 = .ok (.iload_n 3, 1) := by decide +kernel
theorem dX7_comesBounds_16 : decode cX7_comesBounds 16 = .ok (.invokestatic 96, 3) := by decide +kernel
theorem dX7_comesBounds_19 : decode cX7_comesBounds 19 = .ok (.ifCond .ne 5, 3) := by decide +kernel
theorem dX7_comesBounds_22 : decode cX7_comesBounds 22 = .ok (.iconst 0, 1) := by decide +kernel
theorem dX7_comesBounds_23 : decode cX7_comesBounds 23 = .ok (.ireturn, 1) := by decide +kernel
theorem dX7_comesBounds_24 : decode cX7_comesBounds 24 = .ok (.aload_n 0, 1) := by decide +kernel
theorem dX7_comesBounds_25 : decode cX7_comesBounds 25 = .ok (.getfield 16, 3) := by decide +kernel
theorem dX7_comesBounds_28 : decode cX7_comesBounds 28 = .ok (.iload_n 1, 1) := by decide +kernel
theorem dX7_comesBounds_29 : decode cX7_comesBounds 29 = .ok (.iload_n 2, 1) := by decide +kernel
theorem dX7_comesBounds_30 : decode cX7_comesBounds 30 = .ok (.iastore, 1) := by decide +kernel
theorem dX7_comesBounds_31 : decode cX7_comesBounds 31 = .ok (.aload_n 0, 1) := by decide +kernel
theorem dX7_comesBounds_32 : decode cX7_comesBounds 32 = .ok (.getfield 19, 3) := by decide +kernel
theorem dX7_comesBounds_35 : decode cX7_comesBounds 35 = .ok (.iload_n 1, 1) := by decide +kernel
theorem dX7_comesBounds_36 : decode cX7_comesBounds 36 = .ok (.iload_n 3, 1) := by decide +kernel
theorem dX7_comesBounds_37 : decode cX7_comesBounds 37 = .ok (.iastore, 1) := by decide +kernel
theorem dX7_comesBounds_38 : decode cX7_comesBounds 38 = .ok (.iconst 1, 1) := by decide +kernel
theorem dX7_comesBounds_39 : decode cX7_comesBounds 39 = .ok (.ireturn, 1) := by decide +kernel
theorem dX7_comesRule_0 : decode cX7_comesRule 0 = .ok (.iload_n 2, 1) := by decide +kernel
theorem dX7_comesRule_1 : decode cX7_comesRule 1 = .ok (.iload_n 1, 1) := by decide +kernel
theorem dX7_comesRule_2 : decode cX7_comesRule 2 = .ok (.bipush 114, 2) := by decide +kernel
theorem dX7_comesRule_4 : decode cX7_comesRule 4 = .ok (.if_icmp .ne 7, 3) := by decide +kernel
theorem dX7_comesRule_7 : decode cX7_comesRule 7 = .ok (.iconst 3, 1) := by decide +kernel
theorem dX7_comesRule_8 : decode cX7_comesRule 8 = .ok (.goto 5, 3) := by decide +kernel
theorem dX7_comesRule_11 : decode cX7_comesRule 11 = .ok (.bipush 10, 2) := by decide +kernel
theorem dX7_comesRule_13 : decode cX7_comesRule 13 = .ok (.if_icmp .le 5, 3) := by decide +kernel
theorem dX7_comesRule_16 : decode cX7_comesRule 16 = .ok (.iconst 0, 1) := by decide +kernel
theorem dX7_comesRule_17 : decode cX7_comesRule 17 = .ok (.ireturn, 1) := by decide +kernel
theorem dX7_comesRule_18 : decode cX7_comesRule 18 = .ok (.iload_n 1, 1) := by decide +kernel
theorem dX7_comesRule_19 : decode cX7_comesRule 19 = .ok (.bipush 114, 2) := by decide +kernel
theorem dX7_comesRule_21 : decode cX7_comesRule 21 = .ok (.if_icmp .ne 11, 3) := by decide +kernel
theorem dX7_comesRule_24 : decode cX7_comesRule 24 = .ok (.aload_n 0, 1) := by decide +kernel
theorem dX7_comesRule_25 : decode cX7_comesRule 25 = .ok (.iload_n 2, 1) := by decide +kernel
theorem dX7_comesRule_26 : decode cX7_comesRule 26 = .ok (.putfield 176, 3) := by decide +kernel
theorem dX7_comesRule_29 : decode cX7_comesRule 29 = .ok (.goto 8, 3) := by decide +kernel
theorem dX7_comesRule_32 : decode cX7_comesRule 32 = .ok (.aload_n 0, 1) := by decide +kernel
theorem dX7_comesRule_33 : decode cX7_comesRule 33 = .ok (.iload_n 2, 1) := by decide +kernel
theorem dX7_comesRule_34 : decode cX7_comesRule 34 = .ok (.putfield 90, 3) := by decide +kernel
theorem dX7_comesRule_37 : decode cX7_comesRule 37 = .ok (.iconst 1, 1) := by decide +kernel
theorem dX7_comesRule_38 : decode cX7_comesRule 38 = .ok (.ireturn, 1) := by decide +kernel
theorem dX7_setTold_0 : decode cX7_setTold 0 = .ok (.iconst 0, 1) := by decide +kernel
theorem dX7_setTold_1 : decode cX7_setTold 1 = .ok (.istore 4, 2) := by decide +kernel
theorem dX7_setTold_3 : decode cX7_setTold 3 = .ok (.iconst 0, 1) := by decide +kernel
theorem dX7_setTold_4 : decode cX7_setTold 4 = .ok (.istore 5, 2) := by decide +kernel
theorem dX7_setTold_6 : decode cX7_setTold 6 = .ok (.iload 5, 2) := by decide +kernel
theorem dX7_setTold_8 : decode cX7_setTold 8 = .ok (.bipush 8, 2) := by decide +kernel
theorem dX7_setTold_10 : decode cX7_setTold 10 = .ok (.if_icmp .ge 39, 3) := by decide +kernel
theorem dX7_setTold_13 : decode cX7_setTold 13 = .ok (.iload 4, 2) := by decide +kernel
theorem dX7_setTold_15 : decode cX7_setTold 15 = .ok (.aload_n 0, 1) := by decide +kernel
theorem dX7_setTold_16 : decode cX7_setTold 16 = .ok (.getfield 62, 3) := by decide +kernel
theorem dX7_setTold_19 : decode cX7_setTold 19 = .ok (.iload_n 1, 1) := by decide +kernel
theorem dX7_setTold_20 : decode cX7_setTold 20 = .ok (.iload 5, 2) := by decide +kernel
theorem dX7_setTold_22 : decode cX7_setTold 22 = .ok (.iadd, 1) := by decide +kernel
theorem dX7_setTold_23 : decode cX7_setTold 23 = .ok (.iaload, 1) := by decide +kernel
theorem dX7_setTold_24 : decode cX7_setTold 24 = .ok (.iload_n 2, 1) := by decide +kernel
theorem dX7_setTold_25 : decode cX7_setTold 25 = .ok (.iload_n 3, 1) := by decide +kernel
theorem dX7_setTold_26 : decode cX7_setTold 26 = .ok (.invokestatic 96, 3) := by decide +kernel
theorem dX7_setTold_29 : decode cX7_setTold 29 = .ok (.ifCond .eq 10, 3) := by decide +kernel
theorem dX7_setTold_32 : decode cX7_setTold 32 = .ok (.iconst 1, 1) := by decide +kernel
theorem dX7_setTold_33 : decode cX7_setTold 33 = .ok (.iload 5, 2) := by decide +kernel
theorem dX7_setTold_35 : decode cX7_setTold 35 = .ok (.ishl, 1) := by decide +kernel
theorem dX7_setTold_36 : decode cX7_setTold 36 = .ok (.goto 4, 3) := by decide +kernel
theorem dX7_setTold_39 : decode cX7_setTold 39 = .ok (.iconst 0, 1) := by decide +kernel
theorem dX7_setTold_40 : decode cX7_setTold 40 = .ok (.ior, 1) := by decide +kernel
theorem dX7_setTold_41 : decode cX7_setTold 41 = .ok (.istore 4, 2) := by decide +kernel
theorem dX7_setTold_43 : decode cX7_setTold 43 = .ok (.iinc 5 1, 3) := by decide +kernel
theorem dX7_setTold_46 : decode cX7_setTold 46 = .ok (.goto (-40), 3) := by decide +kernel
theorem dX7_setTold_49 : decode cX7_setTold 49 = .ok (.iload 4, 2) := by decide +kernel
theorem dX7_setTold_51 : decode cX7_setTold 51 = .ok (.ireturn, 1) := by decide +kernel
theorem dX7_comesQuestion_0 : decode cX7_comesQuestion 0 = .ok (.iload_n 1, 1) := by decide +kernel
theorem dX7_comesQuestion_1 : decode cX7_comesQuestion 1 = .ok (.bipush 115, 2) := by decide +kernel
theorem dX7_comesQuestion_3 : decode cX7_comesQuestion 3 = .ok (.if_icmp .ne 7, 3) := by decide +kernel
theorem dX7_comesQuestion_6 : decode cX7_comesQuestion 6 = .ok (.iconst 0, 1) := by decide +kernel
theorem dX7_comesQuestion_7 : decode cX7_comesQuestion 7 = .ok (.goto 14, 3) := by decide +kernel
theorem dX7_comesQuestion_10 : decode cX7_comesQuestion 10 = .ok (.iload_n 1, 1) := by decide +kernel
theorem dX7_comesQuestion_11 : decode cX7_comesQuestion 11 = .ok (.bipush 100, 2) := by decide +kernel
theorem dX7_comesQuestion_13 : decode cX7_comesQuestion 13 = .ok (.if_icmp .ne 7, 3) := by decide +kernel
theorem dX7_comesQuestion_16 : decode cX7_comesQuestion 16 = .ok (.iconst 1, 1) := by decide +kernel
theorem dX7_comesQuestion_17 : decode cX7_comesQuestion 17 = .ok (.goto 4, 3) := by decide +kernel
theorem dX7_comesQuestion_20 : decode cX7_comesQuestion 20 = .ok (.iconst 2, 1) := by decide +kernel
theorem dX7_comesQuestion_21 : decode cX7_comesQuestion 21 = .ok (.istore_n 3, 1) := by decide +kernel
theorem dX7_comesQuestion_22 : decode cX7_comesQuestion 22 = .ok (.aload_n 0, 1) := by decide +kernel
theorem dX7_comesQuestion_23 : decode cX7_comesQuestion 23 = .ok (.iload_n 2, 1) := by decide +kernel
theorem dX7_comesQuestion_24 : decode cX7_comesQuestion 24 = .ok (.iconst 1, 1) := by decide +kernel
theorem dX7_comesQuestion_25 : decode cX7_comesQuestion 25 = .ok (.iload_n 3, 1) := by decide +kernel
theorem dX7_comesQuestion_26 : decode cX7_comesQuestion 26 = .ok (.iconst 1, 1) := by decide +kernel
theorem dX7_comesQuestion_27 : decode cX7_comesQuestion 27 = .ok (.if_icmp .ne 7, 3) := by decide +kernel
theorem dX7_comesQuestion_30 : decode cX7_comesQuestion 30 = .ok (.iconst 1, 1) := by decide +kernel
theorem dX7_comesQuestion_31 : decode cX7_comesQuestion 31 = .ok (.goto 5, 3) := by decide +kernel
theorem dX7_comesQuestion_34 : decode cX7_comesQuestion 34 = .ok (.bipush 9, 2) := by decide +kernel
theorem dX7_comesQuestion_36 : decode cX7_comesQuestion 36 = .ok (.invokevirtual 260, 3) := by decide +kernel
theorem dX7_comesQuestion_39 : decode cX7_comesQuestion 39 = .ok (.istore 4, 2) := by decide +kernel
theorem dX7_comesQuestion_41 : decode cX7_comesQuestion 41 = .ok (.iload_n 3, 1) := by decide +kernel
theorem dX7_comesQuestion_42 : decode cX7_comesQuestion 42 = .ok (.iconst 1, 1) := by decide +kernel
theorem dX7_comesQuestion_43 : decode cX7_comesQuestion 43 = .ok (.if_icmp .ne 13, 3) := by decide +kernel
theorem dX7_comesQuestion_46 : decode cX7_comesQuestion 46 = .ok (.aload_n 0, 1) := by decide +kernel
theorem dX7_comesQuestion_47 : decode cX7_comesQuestion 47 = .ok (.iload_n 2, 1) := by decide +kernel
theorem dX7_comesQuestion_48 : decode cX7_comesQuestion 48 = .ok (.iconst 2, 1) := by decide +kernel
theorem dX7_comesQuestion_49 : decode cX7_comesQuestion 49 = .ok (.iconst 2, 1) := by decide +kernel
theorem dX7_comesQuestion_50 : decode cX7_comesQuestion 50 = .ok (.invokevirtual 260, 3) := by decide +kernel
theorem dX7_comesQuestion_53 : decode cX7_comesQuestion 53 = .ok (.goto 12, 3) := by decide +kernel
theorem dX7_comesQuestion_56 : decode cX7_comesQuestion 56 = .ok (.aload_n 0, 1) := by decide +kernel
theorem dX7_comesQuestion_57 : decode cX7_comesQuestion 57 = .ok (.getfield 62, 3) := by decide +kernel
theorem dX7_comesQuestion_60 : decode cX7_comesQuestion 60 = .ok (.iload_n 2, 1) := by decide +kernel
theorem dX7_comesQuestion_61 : decode cX7_comesQuestion 61 = .ok (.bipush 8, 2) := by decide +kernel
theorem dX7_comesQuestion_63 : decode cX7_comesQuestion 63 = .ok (.iadd, 1) := by decide +kernel
theorem dX7_comesQuestion_64 : decode cX7_comesQuestion 64 = .ok (.iaload, 1) := by decide +kernel
theorem dX7_comesQuestion_65 : decode cX7_comesQuestion 65 = .ok (.istore 5, 2) := by decide +kernel
theorem dX7_comesQuestion_67 : decode cX7_comesQuestion 67 = .ok (.iload_n 3, 1) := by decide +kernel
theorem dX7_comesQuestion_68 : decode cX7_comesQuestion 68 = .ok (.iconst 1, 1) := by decide +kernel
theorem dX7_comesQuestion_69 : decode cX7_comesQuestion 69 = .ok (.if_icmp .ne 14, 3) := by decide +kernel
theorem dX7_comesQuestion_72 : decode cX7_comesQuestion 72 = .ok (.aload_n 0, 1) := by decide +kernel
theorem dX7_comesQuestion_73 : decode cX7_comesQuestion 73 = .ok (.iload_n 2, 1) := by decide +kernel
theorem dX7_comesQuestion_74 : decode cX7_comesQuestion 74 = .ok (.iconst 3, 1) := by decide +kernel
theorem dX7_comesQuestion_75 : decode cX7_comesQuestion 75 = .ok (.bipush 9, 2) := by decide +kernel
theorem dX7_comesQuestion_77 : decode cX7_comesQuestion 77 = .ok (.invokevirtual 260, 3) := by decide +kernel
theorem dX7_comesQuestion_80 : decode cX7_comesQuestion 80 = .ok (.ifCond .ne 14, 3) := by decide +kernel
theorem dX7_comesQuestion_83 : decode cX7_comesQuestion 83 = .ok (.iload_n 3, 1) := by decide +kernel
theorem dX7_comesQuestion_84 : decode cX7_comesQuestion 84 = .ok (.iload 4, 2) := by decide +kernel
theorem dX7_comesQuestion_86 : decode cX7_comesQuestion 86 = .ok (.iload 5, 2) := by decide +kernel
theorem dX7_comesQuestion_88 : decode cX7_comesQuestion 88 = .ok (.invokestatic 263, 3) := by decide +kernel
theorem dX7_comesQuestion_91 : decode cX7_comesQuestion 91 = .ok (.ifCond .eq 5, 3) := by decide +kernel
theorem dX7_comesQuestion_94 : decode cX7_comesQuestion 94 = .ok (.iconst 0, 1) := by decide +kernel
theorem dX7_comesQuestion_95 : decode cX7_comesQuestion 95 = .ok (.ireturn, 1) := by decide +kernel
theorem dX7_comesQuestion_96 : decode cX7_comesQuestion 96 = .ok (.aload_n 0, 1) := by decide +kernel
theorem dX7_comesQuestion_97 : decode cX7_comesQuestion 97 = .ok (.iload_n 3, 1) := by decide +kernel
theorem dX7_comesQuestion_98 : decode cX7_comesQuestion 98 = .ok (.iload 4, 2) := by decide +kernel
theorem dX7_comesQuestion_100 : decode cX7_comesQuestion 100 = .ok (.iload 5, 2) := by decide +kernel
theorem dX7_comesQuestion_102 : decode cX7_comesQuestion 102 = .ok (.invokevirtual 266, 3) := by decide +kernel
theorem dX7_comesQuestion_105 : decode cX7_comesQuestion 105 = .ok (.aload_n 0, 1) := by decide +kernel
theorem dX7_comesQuestion_106 : decode cX7_comesQuestion 106 = .ok (.invokevirtual 270, 3) := by decide +kernel
theorem dX7_comesQuestion_109 : decode cX7_comesQuestion 109 = .ok (.iconst 2, 1) := by decide +kernel
theorem dX7_comesQuestion_110 : decode cX7_comesQuestion 110 = .ok (.if_icmp .eq 7, 3) := by decide +kernel
theorem dX7_comesQuestion_113 : decode cX7_comesQuestion 113 = .ok (.iconst 1, 1) := by decide +kernel
theorem dX7_comesQuestion_114 : decode cX7_comesQuestion 114 = .ok (.goto 4, 3) := by decide +kernel
theorem dX7_comesQuestion_117 : decode cX7_comesQuestion 117 = .ok (.iconst 0, 1) := by decide +kernel
theorem dX7_comesQuestion_118 : decode cX7_comesQuestion 118 = .ok (.ireturn, 1) := by decide +kernel
theorem dX7_comes_0 : decode cX7_comes 0 = .ok (.bipush 9, 2) := by decide +kernel
theorem dX7_comes_2 : decode cX7_comes 2 = .ok (.iload_n 1, 1) := by decide +kernel
theorem dX7_comes_3 : decode cX7_comes 3 = .ok (.imul, 1) := by decide +kernel
theorem dX7_comes_4 : decode cX7_comes 4 = .ok (.istore_n 2, 1) := by decide +kernel
theorem dX7_comes_5 : decode cX7_comes 5 = .ok (.aload_n 0, 1) := by decide +kernel
theorem dX7_comes_6 : decode cX7_comes 6 = .ok (.getfield 56, 3) := by decide +kernel
theorem dX7_comes_9 : decode cX7_comes 9 = .ok (.iload_n 1, 1) := by decide +kernel
theorem dX7_comes_10 : decode cX7_comes 10 = .ok (.iaload, 1) := by decide +kernel
theorem dX7_comes_11 : decode cX7_comes 11 = .ok (.lookupswitch 131 #[(98, 87), (99, 68), (108, 114), (114, 114), (118, 49)], 49) := by decide +kernel
theorem dX7_comes_60 : decode cX7_comes 60 = .ok (.aload_n 0, 1) := by decide +kernel
theorem dX7_comes_61 : decode cX7_comes 61 = .ok (.aload_n 0, 1) := by decide +kernel
theorem dX7_comes_62 : decode cX7_comes 62 = .ok (.getfield 62, 3) := by decide +kernel
theorem dX7_comes_65 : decode cX7_comes 65 = .ok (.iload_n 2, 1) := by decide +kernel
theorem dX7_comes_66 : decode cX7_comes 66 = .ok (.iaload, 1) := by decide +kernel
theorem dX7_comes_67 : decode cX7_comes 67 = .ok (.aload_n 0, 1) := by decide +kernel
theorem dX7_comes_68 : decode cX7_comes 68 = .ok (.getfield 62, 3) := by decide +kernel
theorem dX7_comes_71 : decode cX7_comes 71 = .ok (.iload_n 2, 1) := by decide +kernel
theorem dX7_comes_72 : decode cX7_comes 72 = .ok (.iconst 1, 1) := by decide +kernel
theorem dX7_comes_73 : decode cX7_comes 73 = .ok (.iadd, 1) := by decide +kernel
theorem dX7_comes_74 : decode cX7_comes 74 = .ok (.iaload, 1) := by decide +kernel
theorem dX7_comes_75 : decode cX7_comes 75 = .ok (.invokevirtual 273, 3) := by decide +kernel
theorem dX7_comes_78 : decode cX7_comes 78 = .ok (.ireturn, 1) := by decide +kernel
theorem dX7_comes_79 : decode cX7_comes 79 = .ok (.aload_n 0, 1) := by decide +kernel
theorem dX7_comes_80 : decode cX7_comes 80 = .ok (.aload_n 0, 1) := by decide +kernel
theorem dX7_comes_81 : decode cX7_comes 81 = .ok (.getfield 62, 3) := by decide +kernel
theorem dX7_comes_84 : decode cX7_comes 84 = .ok (.iload_n 2, 1) := by decide +kernel
theorem dX7_comes_85 : decode cX7_comes 85 = .ok (.iaload, 1) := by decide +kernel
theorem dX7_comes_86 : decode cX7_comes 86 = .ok (.aload_n 0, 1) := by decide +kernel
theorem dX7_comes_87 : decode cX7_comes 87 = .ok (.getfield 62, 3) := by decide +kernel
theorem dX7_comes_90 : decode cX7_comes 90 = .ok (.iload_n 2, 1) := by decide +kernel
theorem dX7_comes_91 : decode cX7_comes 91 = .ok (.iconst 1, 1) := by decide +kernel
theorem dX7_comes_92 : decode cX7_comes 92 = .ok (.iadd, 1) := by decide +kernel
theorem dX7_comes_93 : decode cX7_comes 93 = .ok (.iaload, 1) := by decide +kernel
theorem dX7_comes_94 : decode cX7_comes 94 = .ok (.invokevirtual 276, 3) := by decide +kernel
theorem dX7_comes_97 : decode cX7_comes 97 = .ok (.ireturn, 1) := by decide +kernel
theorem dX7_comes_98 : decode cX7_comes 98 = .ok (.aload_n 0, 1) := by decide +kernel
theorem dX7_comes_99 : decode cX7_comes 99 = .ok (.aload_n 0, 1) := by decide +kernel
theorem dX7_comes_100 : decode cX7_comes 100 = .ok (.getfield 62, 3) := by decide +kernel
theorem dX7_comes_103 : decode cX7_comes 103 = .ok (.iload_n 2, 1) := by decide +kernel
theorem dX7_comes_104 : decode cX7_comes 104 = .ok (.iaload, 1) := by decide +kernel
theorem dX7_comes_105 : decode cX7_comes 105 = .ok (.aload_n 0, 1) := by decide +kernel
theorem dX7_comes_106 : decode cX7_comes 106 = .ok (.getfield 62, 3) := by decide +kernel
theorem dX7_comes_109 : decode cX7_comes 109 = .ok (.iload_n 2, 1) := by decide +kernel
theorem dX7_comes_110 : decode cX7_comes 110 = .ok (.iconst 1, 1) := by decide +kernel
theorem dX7_comes_111 : decode cX7_comes 111 = .ok (.iadd, 1) := by decide +kernel
theorem dX7_comes_112 : decode cX7_comes 112 = .ok (.iaload, 1) := by decide +kernel
theorem dX7_comes_113 : decode cX7_comes 113 = .ok (.aload_n 0, 1) := by decide +kernel
theorem dX7_comes_114 : decode cX7_comes 114 = .ok (.getfield 62, 3) := by decide +kernel
theorem dX7_comes_117 : decode cX7_comes 117 = .ok (.iload_n 2, 1) := by decide +kernel
theorem dX7_comes_118 : decode cX7_comes 118 = .ok (.iconst 2, 1) := by decide +kernel
theorem dX7_comes_119 : decode cX7_comes 119 = .ok (.iadd, 1) := by decide +kernel
theorem dX7_comes_120 : decode cX7_comes 120 = .ok (.iaload, 1) := by decide +kernel
theorem dX7_comes_121 : decode cX7_comes 121 = .ok (.invokevirtual 279, 3) := by decide +kernel
theorem dX7_comes_124 : decode cX7_comes 124 = .ok (.ireturn, 1) := by decide +kernel
theorem dX7_comes_125 : decode cX7_comes 125 = .ok (.aload_n 0, 1) := by decide +kernel
theorem dX7_comes_126 : decode cX7_comes 126 = .ok (.aload_n 0, 1) := by decide +kernel
theorem dX7_comes_127 : decode cX7_comes 127 = .ok (.getfield 56, 3) := by decide +kernel
theorem dX7_comes_130 : decode cX7_comes 130 = .ok (.iload_n 1, 1) := by decide +kernel
theorem dX7_comes_131 : decode cX7_comes 131 = .ok (.iaload, 1) := by decide +kernel
theorem dX7_comes_132 : decode cX7_comes 132 = .ok (.aload_n 0, 1) := by decide +kernel
theorem dX7_comes_133 : decode cX7_comes 133 = .ok (.getfield 62, 3) := by decide +kernel
theorem dX7_comes_136 : decode cX7_comes 136 = .ok (.iload_n 2, 1) := by decide +kernel
theorem dX7_comes_137 : decode cX7_comes 137 = .ok (.iaload, 1) := by decide +kernel
theorem dX7_comes_138 : decode cX7_comes 138 = .ok (.invokevirtual 282, 3) := by decide +kernel
theorem dX7_comes_141 : decode cX7_comes 141 = .ok (.ireturn, 1) := by decide +kernel
theorem dX7_comes_142 : decode cX7_comes 142 = .ok (.aload_n 0, 1) := by decide +kernel
theorem dX7_comes_143 : decode cX7_comes 143 = .ok (.aload_n 0, 1) := by decide +kernel
theorem dX7_comes_144 : decode cX7_comes 144 = .ok (.getfield 56, 3) := by decide +kernel
theorem dX7_comes_147 : decode cX7_comes 147 = .ok (.iload_n 1, 1) := by decide +kernel
theorem dX7_comes_148 : decode cX7_comes 148 = .ok (.iaload, 1) := by decide +kernel
theorem dX7_comes_149 : decode cX7_comes 149 = .ok (.iload_n 2, 1) := by decide +kernel
theorem dX7_comes_150 : decode cX7_comes 150 = .ok (.invokevirtual 285, 3) := by decide +kernel
theorem dX7_comes_153 : decode cX7_comes 153 = .ok (.ireturn, 1) := by decide +kernel
theorem dX7_guard_0 : decode cX7_guard 0 = .ok (.aload_n 0, 1) := by decide +kernel
theorem dX7_guard_1 : decode cX7_guard 1 = .ok (.iconst 0, 1) := by decide +kernel
theorem dX7_guard_2 : decode cX7_guard 2 = .ok (.putfield 223, 3) := by decide +kernel
theorem dX7_guard_5 : decode cX7_guard 5 = .ok (.aload_n 0, 1) := by decide +kernel
theorem dX7_guard_6 : decode cX7_guard 6 = .ok (.iconst 0, 1) := by decide +kernel
theorem dX7_guard_7 : decode cX7_guard 7 = .ok (.putfield 238, 3) := by decide +kernel
theorem dX7_guard_10 : decode cX7_guard 10 = .ok (.iconst 1, 1) := by decide +kernel
theorem dX7_guard_11 : decode cX7_guard 11 = .ok (.istore_n 1, 1) := by decide +kernel
theorem dX7_guard_12 : decode cX7_guard 12 = .ok (.iload_n 1, 1) := by decide +kernel
theorem dX7_guard_13 : decode cX7_guard 13 = .ok (.ifCond .eq 47, 3) := by decide +kernel
theorem dX7_guard_16 : decode cX7_guard 16 = .ok (.aload_n 0, 1) := by decide +kernel
theorem dX7_guard_17 : decode cX7_guard 17 = .ok (.getfield 223, 3) := by decide +kernel
theorem dX7_guard_20 : decode cX7_guard 20 = .ok (.aload_n 0, 1) := by decide +kernel
theorem dX7_guard_21 : decode cX7_guard 21 = .ok (.getfield 220, 3) := by decide +kernel
theorem dX7_guard_24 : decode cX7_guard 24 = .ok (.if_icmp .lt 10, 3) := by decide +kernel
theorem dX7_guard_27 : decode cX7_guard 27 = .ok (.aload_n 0, 1) := by decide +kernel
theorem dX7_guard_28 : decode cX7_guard 28 = .ok (.getfield 238, 3) := by decide +kernel
theorem dX7_guard_31 : decode cX7_guard 31 = .ok (.ifCond .ne 29, 3) := by decide +kernel
theorem dX7_guard_34 : decode cX7_guard 34 = .ok (.aload_n 0, 1) := by decide +kernel
theorem dX7_guard_35 : decode cX7_guard 35 = .ok (.invokevirtual 288, 3) := by decide +kernel
theorem dX7_guard_38 : decode cX7_guard 38 = .ok (.istore_n 1, 1) := by decide +kernel
theorem dX7_guard_39 : decode cX7_guard 39 = .ok (.aload_n 0, 1) := by decide +kernel
theorem dX7_guard_40 : decode cX7_guard 40 = .ok (.dup, 1) := by decide +kernel
theorem dX7_guard_41 : decode cX7_guard 41 = .ok (.getfield 238, 3) := by decide +kernel
theorem dX7_guard_44 : decode cX7_guard 44 = .ok (.iload_n 1, 1) := by decide +kernel
theorem dX7_guard_45 : decode cX7_guard 45 = .ok (.ifCond .eq 7, 3) := by decide +kernel
theorem dX7_guard_48 : decode cX7_guard 48 = .ok (.iconst 1, 1) := by decide +kernel
theorem dX7_guard_49 : decode cX7_guard 49 = .ok (.goto 4, 3) := by decide +kernel
theorem dX7_guard_52 : decode cX7_guard 52 = .ok (.iconst 0, 1) := by decide +kernel
theorem dX7_guard_53 : decode cX7_guard 53 = .ok (.iadd, 1) := by decide +kernel
theorem dX7_guard_54 : decode cX7_guard 54 = .ok (.putfield 238, 3) := by decide +kernel
theorem dX7_guard_57 : decode cX7_guard 57 = .ok (.goto (-45), 3) := by decide +kernel
theorem dX7_guard_60 : decode cX7_guard 60 = .ok (.aload_n 0, 1) := by decide +kernel
theorem dX7_guard_61 : decode cX7_guard 61 = .ok (.iconst 0, 1) := by decide +kernel
theorem dX7_guard_62 : decode cX7_guard 62 = .ok (.putfield 220, 3) := by decide +kernel
theorem dX7_guard_65 : decode cX7_guard 65 = .ok (.iload_n 1, 1) := by decide +kernel
theorem dX7_guard_66 : decode cX7_guard 66 = .ok (.ifCond .ne 12, 3) := by decide +kernel
theorem dX7_guard_69 : decode cX7_guard 69 = .ok (.sipush (-1000), 3) := by decide +kernel
theorem dX7_guard_72 : decode cX7_guard 72 = .ok (.aload_n 0, 1) := by decide +kernel
theorem dX7_guard_73 : decode cX7_guard 73 = .ok (.getfield 223, 3) := by decide +kernel
theorem dX7_guard_76 : decode cX7_guard 76 = .ok (.isub, 1) := by decide +kernel
theorem dX7_guard_77 : decode cX7_guard 77 = .ok (.ireturn, 1) := by decide +kernel
theorem dX7_guard_78 : decode cX7_guard 78 = .ok (.aload_n 0, 1) := by decide +kernel
theorem dX7_guard_79 : decode cX7_guard 79 = .ok (.iconst 1, 1) := by decide +kernel
theorem dX7_guard_80 : decode cX7_guard 80 = .ok (.iconst 1, 1) := by decide +kernel
theorem dX7_guard_81 : decode cX7_guard 81 = .ok (.invokevirtual 206, 3) := by decide +kernel
theorem dX7_guard_84 : decode cX7_guard 84 = .ok (.iconst 0, 1) := by decide +kernel
theorem dX7_guard_85 : decode cX7_guard 85 = .ok (.istore_n 2, 1) := by decide +kernel
theorem dX7_guard_86 : decode cX7_guard 86 = .ok (.iload_n 2, 1) := by decide +kernel
theorem dX7_guard_87 : decode cX7_guard 87 = .ok (.aload_n 0, 1) := by decide +kernel
theorem dX7_guard_88 : decode cX7_guard 88 = .ok (.getfield 238, 3) := by decide +kernel
theorem dX7_guard_91 : decode cX7_guard 91 = .ok (.if_icmp .ge 37, 3) := by decide +kernel
theorem dX7_guard_94 : decode cX7_guard 94 = .ok (.aload_n 0, 1) := by decide +kernel
theorem dX7_guard_95 : decode cX7_guard 95 = .ok (.iload_n 2, 1) := by decide +kernel
theorem dX7_guard_96 : decode cX7_guard 96 = .ok (.invokevirtual 291, 3) := by decide +kernel
theorem dX7_guard_99 : decode cX7_guard 99 = .ok (.ifCond .eq 6, 3) := by decide +kernel
theorem dX7_guard_102 : decode cX7_guard 102 = .ok (.goto 20, 3) := by decide +kernel
theorem dX7_guard_105 : decode cX7_guard 105 = .ok (.aload_n 0, 1) := by decide +kernel
theorem dX7_guard_106 : decode cX7_guard 106 = .ok (.iconst 1, 1) := by decide +kernel
theorem dX7_guard_107 : decode cX7_guard 107 = .ok (.iconst 0, 1) := by decide +kernel
theorem dX7_guard_108 : decode cX7_guard 108 = .ok (.invokevirtual 206, 3) := by decide +kernel
theorem dX7_guard_111 : decode cX7_guard 111 = .ok (.sipush (-2000), 3) := by decide +kernel
theorem dX7_guard_114 : decode cX7_guard 114 = .ok (.aload_n 0, 1) := by decide +kernel
theorem dX7_guard_115 : decode cX7_guard 115 = .ok (.getfield 59, 3) := by decide +kernel
theorem dX7_guard_118 : decode cX7_guard 118 = .ok (.iload_n 2, 1) := by decide +kernel
theorem dX7_guard_119 : decode cX7_guard 119 = .ok (.iaload, 1) := by decide +kernel
theorem dX7_guard_120 : decode cX7_guard 120 = .ok (.isub, 1) := by decide +kernel
theorem dX7_guard_121 : decode cX7_guard 121 = .ok (.ireturn, 1) := by decide +kernel
theorem dX7_guard_122 : decode cX7_guard 122 = .ok (.iinc 2 1, 3) := by decide +kernel
theorem dX7_guard_125 : decode cX7_guard 125 = .ok (.goto (-39), 3) := by decide +kernel
theorem dX7_guard_128 : decode cX7_guard 128 = .ok (.aload_n 0, 1) := by decide +kernel
theorem dX7_guard_129 : decode cX7_guard 129 = .ok (.getfield 238, 3) := by decide +kernel
theorem dX7_guard_132 : decode cX7_guard 132 = .ok (.ireturn, 1) := by decide +kernel
theorem dX7_person_0 : decode cX7_person 0 = .ok (.iload_n 1, 1) := by decide +kernel
theorem dX7_person_1 : decode cX7_person 1 = .ok (.invokestatic 244, 3) := by decide +kernel
theorem dX7_person_4 : decode cX7_person 4 = .ok (.ifCond .ne 9, 3) := by decide +kernel
theorem dX7_person_7 : decode cX7_person 7 = .ok (.aload_n 0, 1) := by decide +kernel
theorem dX7_person_8 : decode cX7_person 8 = .ok (.iconst (-1), 1) := by decide +kernel
theorem dX7_person_9 : decode cX7_person 9 = .ok (.invokevirtual 213, 3) := by decide +kernel
theorem dX7_person_12 : decode cX7_person 12 = .ok (.ireturn, 1) := by decide +kernel
theorem dX7_person_13 : decode cX7_person 13 = .ok (.aload_n 0, 1) := by decide +kernel
theorem dX7_person_14 : decode cX7_person 14 = .ok (.getfield 22, 3) := by decide +kernel
theorem dX7_person_17 : decode cX7_person 17 = .ok (.iload_n 1, 1) := by decide +kernel
theorem dX7_person_18 : decode cX7_person 18 = .ok (.iaload, 1) := by decide +kernel
theorem dX7_person_19 : decode cX7_person 19 = .ok (.istore_n 3, 1) := by decide +kernel
theorem dX7_person_20 : decode cX7_person 20 = .ok (.iload_n 2, 1) := by decide +kernel
theorem dX7_person_21 : decode cX7_person 21 = .ok (.tableswitch 50 0 2 #[27, 34, 36], 27) := by decide +kernel
theorem dX7_person_48 : decode cX7_person 48 = .ok (.aload_n 0, 1) := by decide +kernel
theorem dX7_person_49 : decode cX7_person 49 = .ok (.getfield 13, 3) := by decide +kernel
theorem dX7_person_52 : decode cX7_person 52 = .ok (.iload_n 3, 1) := by decide +kernel
theorem dX7_person_53 : decode cX7_person 53 = .ok (.iaload, 1) := by decide +kernel
theorem dX7_person_54 : decode cX7_person 54 = .ok (.ireturn, 1) := by decide +kernel
theorem dX7_person_55 : decode cX7_person 55 = .ok (.iload_n 3, 1) := by decide +kernel
theorem dX7_person_56 : decode cX7_person 56 = .ok (.ireturn, 1) := by decide +kernel
theorem dX7_person_57 : decode cX7_person 57 = .ok (.aload_n 0, 1) := by decide +kernel
theorem dX7_person_58 : decode cX7_person 58 = .ok (.iload_n 3, 1) := by decide +kernel
theorem dX7_person_59 : decode cX7_person 59 = .ok (.invokevirtual 247, 3) := by decide +kernel
theorem dX7_person_62 : decode cX7_person 62 = .ok (.ifCond .eq 7, 3) := by decide +kernel
theorem dX7_person_65 : decode cX7_person 65 = .ok (.iconst 1, 1) := by decide +kernel
theorem dX7_person_66 : decode cX7_person 66 = .ok (.goto 4, 3) := by decide +kernel
theorem dX7_person_69 : decode cX7_person 69 = .ok (.iconst 0, 1) := by decide +kernel
theorem dX7_person_70 : decode cX7_person 70 = .ok (.ireturn, 1) := by decide +kernel
theorem dX7_person_71 : decode cX7_person 71 = .ok (.aload_n 0, 1) := by decide +kernel
theorem dX7_person_72 : decode cX7_person 72 = .ok (.bipush (-2), 2) := by decide +kernel
theorem dX7_person_74 : decode cX7_person 74 = .ok (.invokevirtual 213, 3) := by decide +kernel
theorem dX7_person_77 : decode cX7_person 77 = .ok (.ireturn, 1) := by decide +kernel
theorem dX7_tells_0 : decode cX7_tells 0 = .ok (.iload_n 1, 1) := by decide +kernel
theorem dX7_tells_1 : decode cX7_tells 1 = .ok (.invokestatic 244, 3) := by decide +kernel
theorem dX7_tells_4 : decode cX7_tells 4 = .ok (.ifCond .ne 7, 3) := by decide +kernel
theorem dX7_tells_7 : decode cX7_tells 7 = .ok (.iconst (-1), 1) := by decide +kernel
theorem dX7_tells_8 : decode cX7_tells 8 = .ok (.goto 10, 3) := by decide +kernel
theorem dX7_tells_11 : decode cX7_tells 11 = .ok (.iload_n 2, 1) := by decide +kernel
theorem dX7_tells_12 : decode cX7_tells 12 = .ok (.iconst 0, 1) := by decide +kernel
theorem dX7_tells_13 : decode cX7_tells 13 = .ok (.bipush 99, 2) := by decide +kernel
theorem dX7_tells_15 : decode cX7_tells 15 = .ok (.invokestatic 216, 3) := by decide +kernel
theorem dX7_tells_18 : decode cX7_tells 18 = .ok (.istore_n 3, 1) := by decide +kernel
theorem dX7_tells_19 : decode cX7_tells 19 = .ok (.iload_n 3, 1) := by decide +kernel
theorem dX7_tells_20 : decode cX7_tells 20 = .ok (.ifCond .ne 19, 3) := by decide +kernel
theorem dX7_tells_23 : decode cX7_tells 23 = .ok (.aload_n 0, 1) := by decide +kernel
theorem dX7_tells_24 : decode cX7_tells 24 = .ok (.aload_n 0, 1) := by decide +kernel
theorem dX7_tells_25 : decode cX7_tells 25 = .ok (.getfield 22, 3) := by decide +kernel
theorem dX7_tells_28 : decode cX7_tells 28 = .ok (.iload_n 1, 1) := by decide +kernel
theorem dX7_tells_29 : decode cX7_tells 29 = .ok (.iaload, 1) := by decide +kernel
theorem dX7_tells_30 : decode cX7_tells 30 = .ok (.invokevirtual 247, 3) := by decide +kernel
theorem dX7_tells_33 : decode cX7_tells 33 = .ok (.ifCond .ne 6, 3) := by decide +kernel
theorem dX7_tells_36 : decode cX7_tells 36 = .ok (.bipush (-3), 2) := by decide +kernel
theorem dX7_tells_38 : decode cX7_tells 38 = .ok (.istore_n 3, 1) := by decide +kernel
theorem dX7_tells_39 : decode cX7_tells 39 = .ok (.iload_n 3, 1) := by decide +kernel
theorem dX7_tells_40 : decode cX7_tells 40 = .ok (.ifCond .eq 9, 3) := by decide +kernel
theorem dX7_tells_43 : decode cX7_tells 43 = .ok (.aload_n 0, 1) := by decide +kernel
theorem dX7_tells_44 : decode cX7_tells 44 = .ok (.iload_n 3, 1) := by decide +kernel
theorem dX7_tells_45 : decode cX7_tells 45 = .ok (.invokevirtual 213, 3) := by decide +kernel
theorem dX7_tells_48 : decode cX7_tells 48 = .ok (.ireturn, 1) := by decide +kernel
theorem dX7_tells_49 : decode cX7_tells 49 = .ok (.aload_n 0, 1) := by decide +kernel
theorem dX7_tells_50 : decode cX7_tells 50 = .ok (.getfield 13, 3) := by decide +kernel
theorem dX7_tells_53 : decode cX7_tells 53 = .ok (.aload_n 0, 1) := by decide +kernel
theorem dX7_tells_54 : decode cX7_tells 54 = .ok (.getfield 22, 3) := by decide +kernel
theorem dX7_tells_57 : decode cX7_tells 57 = .ok (.iload_n 1, 1) := by decide +kernel
theorem dX7_tells_58 : decode cX7_tells 58 = .ok (.iaload, 1) := by decide +kernel
theorem dX7_tells_59 : decode cX7_tells 59 = .ok (.iaload, 1) := by decide +kernel
theorem dX7_tells_60 : decode cX7_tells 60 = .ok (.istore 4, 2) := by decide +kernel
theorem dX7_tells_62 : decode cX7_tells 62 = .ok (.aload_n 0, 1) := by decide +kernel
theorem dX7_tells_63 : decode cX7_tells 63 = .ok (.iload_n 1, 1) := by decide +kernel
theorem dX7_tells_64 : decode cX7_tells 64 = .ok (.iload_n 2, 1) := by decide +kernel
theorem dX7_tells_65 : decode cX7_tells 65 = .ok (.invokevirtual 250, 3) := by decide +kernel
theorem dX7_tells_68 : decode cX7_tells 68 = .ok (.iload 4, 2) := by decide +kernel
theorem dX7_tells_70 : decode cX7_tells 70 = .ok (.ireturn, 1) := by decide +kernel
theorem dX7_changes_0 : decode cX7_changes 0 = .ok (.iload_n 1, 1) := by decide +kernel
theorem dX7_changes_1 : decode cX7_changes 1 = .ok (.invokestatic 244, 3) := by decide +kernel
theorem dX7_changes_4 : decode cX7_changes 4 = .ok (.ifCond .ne 7, 3) := by decide +kernel
theorem dX7_changes_7 : decode cX7_changes 7 = .ok (.iconst (-1), 1) := by decide +kernel
theorem dX7_changes_8 : decode cX7_changes 8 = .ok (.goto 10, 3) := by decide +kernel
theorem dX7_changes_11 : decode cX7_changes 11 = .ok (.iload_n 2, 1) := by decide +kernel
theorem dX7_changes_12 : decode cX7_changes 12 = .ok (.iconst 0, 1) := by decide +kernel
theorem dX7_changes_13 : decode cX7_changes 13 = .ok (.bipush 99, 2) := by decide +kernel
theorem dX7_changes_15 : decode cX7_changes 15 = .ok (.invokestatic 216, 3) := by decide +kernel
theorem dX7_changes_18 : decode cX7_changes 18 = .ok (.istore_n 3, 1) := by decide +kernel
theorem dX7_changes_19 : decode cX7_changes 19 = .ok (.iload_n 3, 1) := by decide +kernel
theorem dX7_changes_20 : decode cX7_changes 20 = .ok (.ifCond .ne 15, 3) := by decide +kernel
theorem dX7_changes_23 : decode cX7_changes 23 = .ok (.aload_n 0, 1) := by decide +kernel
theorem dX7_changes_24 : decode cX7_changes 24 = .ok (.getfield 86, 3) := by decide +kernel
theorem dX7_changes_27 : decode cX7_changes 27 = .ok (.bipush 10, 2) := by decide +kernel
theorem dX7_changes_29 : decode cX7_changes 29 = .ok (.if_icmp .ne 6, 3) := by decide +kernel
theorem dX7_changes_32 : decode cX7_changes 32 = .ok (.bipush (-6), 2) := by decide +kernel
theorem dX7_changes_34 : decode cX7_changes 34 = .ok (.istore_n 3, 1) := by decide +kernel
theorem dX7_changes_35 : decode cX7_changes 35 = .ok (.iload_n 3, 1) := by decide +kernel
theorem dX7_changes_36 : decode cX7_changes 36 = .ok (.ifCond .eq 9, 3) := by decide +kernel
theorem dX7_changes_39 : decode cX7_changes 39 = .ok (.aload_n 0, 1) := by decide +kernel
theorem dX7_changes_40 : decode cX7_changes 40 = .ok (.iload_n 3, 1) := by decide +kernel
theorem dX7_changes_41 : decode cX7_changes 41 = .ok (.invokevirtual 213, 3) := by decide +kernel
theorem dX7_changes_44 : decode cX7_changes 44 = .ok (.ireturn, 1) := by decide +kernel
theorem dX7_changes_45 : decode cX7_changes 45 = .ok (.aload_n 0, 1) := by decide +kernel
theorem dX7_changes_46 : decode cX7_changes 46 = .ok (.iload_n 1, 1) := by decide +kernel
theorem dX7_changes_47 : decode cX7_changes 47 = .ok (.iload_n 2, 1) := by decide +kernel
theorem dX7_changes_48 : decode cX7_changes 48 = .ok (.invokevirtual 254, 3) := by decide +kernel
theorem dX7_changes_51 : decode cX7_changes 51 = .ok (.aload_n 0, 1) := by decide +kernel
theorem dX7_changes_52 : decode cX7_changes 52 = .ok (.getfield 86, 3) := by decide +kernel
theorem dX7_changes_55 : decode cX7_changes 55 = .ok (.iconst 1, 1) := by decide +kernel
theorem dX7_changes_56 : decode cX7_changes 56 = .ok (.isub, 1) := by decide +kernel
theorem dX7_changes_57 : decode cX7_changes 57 = .ok (.ireturn, 1) := by decide +kernel
theorem dX7_bounds_0 : decode cX7_bounds 0 = .ok (.aload_n 0, 1) := by decide +kernel
theorem dX7_bounds_1 : decode cX7_bounds 1 = .ok (.iload_n 1, 1) := by decide +kernel
theorem dX7_bounds_2 : decode cX7_bounds 2 = .ok (.invokevirtual 257, 3) := by decide +kernel
theorem dX7_bounds_5 : decode cX7_bounds 5 = .ok (.ifCond .ne 7, 3) := by decide +kernel
theorem dX7_bounds_8 : decode cX7_bounds 8 = .ok (.iconst (-1), 1) := by decide +kernel
theorem dX7_bounds_9 : decode cX7_bounds 9 = .ok (.goto 34, 3) := by decide +kernel
theorem dX7_bounds_12 : decode cX7_bounds 12 = .ok (.iload_n 2, 1) := by decide +kernel
theorem dX7_bounds_13 : decode cX7_bounds 13 = .ok (.ifCond .lt 7, 3) := by decide +kernel
theorem dX7_bounds_16 : decode cX7_bounds 16 = .ok (.iload_n 3, 1) := by decide +kernel
theorem dX7_bounds_17 : decode cX7_bounds 17 = .ok (.ifCond .ge 8, 3) := by decide +kernel
theorem dX7_bounds_20 : decode cX7_bounds 20 = .ok (.bipush (-4), 2) := by decide +kernel
theorem dX7_bounds_22 : decode cX7_bounds 22 = .ok (.goto 21, 3) := by decide +kernel
theorem dX7_bounds_25 : decode cX7_bounds 25 = .ok (.iload_n 2, 1) := by decide +kernel
theorem dX7_bounds_26 : decode cX7_bounds 26 = .ok (.bipush 99, 2) := by decide +kernel
theorem dX7_bounds_28 : decode cX7_bounds 28 = .ok (.if_icmp .gt 9, 3) := by decide +kernel
theorem dX7_bounds_31 : decode cX7_bounds 31 = .ok (.iload_n 3, 1) := by decide +kernel
theorem dX7_bounds_32 : decode cX7_bounds 32 = .ok (.bipush 99, 2) := by decide +kernel
theorem dX7_bounds_34 : decode cX7_bounds 34 = .ok (.if_icmp .le 8, 3) := by decide +kernel
theorem dX7_bounds_37 : decode cX7_bounds 37 = .ok (.bipush (-6), 2) := by decide +kernel
theorem dX7_bounds_39 : decode cX7_bounds 39 = .ok (.goto 4, 3) := by decide +kernel
theorem dX7_bounds_42 : decode cX7_bounds 42 = .ok (.iconst 0, 1) := by decide +kernel
theorem dX7_bounds_43 : decode cX7_bounds 43 = .ok (.istore 4, 2) := by decide +kernel
theorem dX7_bounds_45 : decode cX7_bounds 45 = .ok (.iload 4, 2) := by decide +kernel
theorem dX7_bounds_47 : decode cX7_bounds 47 = .ok (.ifCond .ne 17, 3) := by decide +kernel
theorem dX7_bounds_50 : decode cX7_bounds 50 = .ok (.aload_n 0, 1) := by decide +kernel
theorem dX7_bounds_51 : decode cX7_bounds 51 = .ok (.iload_n 1, 1) := by decide +kernel
theorem dX7_bounds_52 : decode cX7_bounds 52 = .ok (.iload_n 2, 1) := by decide +kernel
theorem dX7_bounds_53 : decode cX7_bounds 53 = .ok (.iload_n 3, 1) := by decide +kernel
theorem dX7_bounds_54 : decode cX7_bounds 54 = .ok (.invokevirtual 279, 3) := by decide +kernel
theorem dX7_bounds_57 : decode cX7_bounds 57 = .ok (.ifCond .ne 7, 3) := by decide +kernel
theorem dX7_bounds_60 : decode cX7_bounds 60 = .ok (.bipush (-3), 2) := by decide +kernel
theorem dX7_bounds_62 : decode cX7_bounds 62 = .ok (.istore 4, 2) := by decide +kernel
theorem dX7_bounds_64 : decode cX7_bounds 64 = .ok (.iload 4, 2) := by decide +kernel
theorem dX7_bounds_66 : decode cX7_bounds 66 = .ok (.ifCond .eq 12, 3) := by decide +kernel
theorem dX7_bounds_69 : decode cX7_bounds 69 = .ok (.aload_n 0, 1) := by decide +kernel
theorem dX7_bounds_70 : decode cX7_bounds 70 = .ok (.iload 4, 2) := by decide +kernel
theorem dX7_bounds_72 : decode cX7_bounds 72 = .ok (.invokevirtual 213, 3) := by decide +kernel
theorem dX7_bounds_75 : decode cX7_bounds 75 = .ok (.goto 4, 3) := by decide +kernel
theorem dX7_bounds_78 : decode cX7_bounds 78 = .ok (.iconst 1, 1) := by decide +kernel
theorem dX7_bounds_79 : decode cX7_bounds 79 = .ok (.ireturn, 1) := by decide +kernel
theorem dX7_rule_0 : decode cX7_rule 0 = .ok (.iload_n 1, 1) := by decide +kernel
theorem dX7_rule_1 : decode cX7_rule 1 = .ok (.iconst 0, 1) := by decide +kernel
theorem dX7_rule_2 : decode cX7_rule 2 = .ok (.iconst 3, 1) := by decide +kernel
theorem dX7_rule_3 : decode cX7_rule 3 = .ok (.invokestatic 96, 3) := by decide +kernel
theorem dX7_rule_6 : decode cX7_rule 6 = .ok (.ifCond .ne 10, 3) := by decide +kernel
theorem dX7_rule_9 : decode cX7_rule 9 = .ok (.aload_n 0, 1) := by decide +kernel
theorem dX7_rule_10 : decode cX7_rule 10 = .ok (.bipush (-2), 2) := by decide +kernel
theorem dX7_rule_12 : decode cX7_rule 12 = .ok (.invokevirtual 213, 3) := by decide +kernel
theorem dX7_rule_15 : decode cX7_rule 15 = .ok (.ireturn, 1) := by decide +kernel
theorem dX7_rule_16 : decode cX7_rule 16 = .ok (.aload_n 0, 1) := by decide +kernel
theorem dX7_rule_17 : decode cX7_rule 17 = .ok (.getfield 176, 3) := by decide +kernel
theorem dX7_rule_20 : decode cX7_rule 20 = .ok (.istore_n 2, 1) := by decide +kernel
theorem dX7_rule_21 : decode cX7_rule 21 = .ok (.aload_n 0, 1) := by decide +kernel
theorem dX7_rule_22 : decode cX7_rule 22 = .ok (.iload_n 1, 1) := by decide +kernel
theorem dX7_rule_23 : decode cX7_rule 23 = .ok (.putfield 176, 3) := by decide +kernel
theorem dX7_rule_26 : decode cX7_rule 26 = .ok (.iload_n 2, 1) := by decide +kernel
theorem dX7_rule_27 : decode cX7_rule 27 = .ok (.ireturn, 1) := by decide +kernel
theorem dX7_limit_0 : decode cX7_limit 0 = .ok (.iload_n 1, 1) := by decide +kernel
theorem dX7_limit_1 : decode cX7_limit 1 = .ok (.iconst 0, 1) := by decide +kernel
theorem dX7_limit_2 : decode cX7_limit 2 = .ok (.bipush 10, 2) := by decide +kernel
theorem dX7_limit_4 : decode cX7_limit 4 = .ok (.invokestatic 216, 3) := by decide +kernel
theorem dX7_limit_7 : decode cX7_limit 7 = .ok (.istore_n 2, 1) := by decide +kernel
theorem dX7_limit_8 : decode cX7_limit 8 = .ok (.iload_n 2, 1) := by decide +kernel
theorem dX7_limit_9 : decode cX7_limit 9 = .ok (.ifCond .eq 9, 3) := by decide +kernel
theorem dX7_limit_12 : decode cX7_limit 12 = .ok (.aload_n 0, 1) := by decide +kernel
theorem dX7_limit_13 : decode cX7_limit 13 = .ok (.iload_n 2, 1) := by decide +kernel
theorem dX7_limit_14 : decode cX7_limit 14 = .ok (.invokevirtual 213, 3) := by decide +kernel
theorem dX7_limit_17 : decode cX7_limit 17 = .ok (.ireturn, 1) := by decide +kernel
theorem dX7_limit_18 : decode cX7_limit 18 = .ok (.aload_n 0, 1) := by decide +kernel
theorem dX7_limit_19 : decode cX7_limit 19 = .ok (.getfield 90, 3) := by decide +kernel
theorem dX7_limit_22 : decode cX7_limit 22 = .ok (.istore_n 3, 1) := by decide +kernel
theorem dX7_limit_23 : decode cX7_limit 23 = .ok (.aload_n 0, 1) := by decide +kernel
theorem dX7_limit_24 : decode cX7_limit 24 = .ok (.iload_n 1, 1) := by decide +kernel
theorem dX7_limit_25 : decode cX7_limit 25 = .ok (.putfield 90, 3) := by decide +kernel
theorem dX7_limit_28 : decode cX7_limit 28 = .ok (.iload_n 3, 1) := by decide +kernel
theorem dX7_limit_29 : decode cX7_limit 29 = .ok (.ireturn, 1) := by decide +kernel
theorem dX7_ask_0 : decode cX7_ask 0 = .ok (.iload_n 1, 1) := by decide +kernel
theorem dX7_ask_1 : decode cX7_ask 1 = .ok (.iload_n 2, 1) := by decide +kernel
theorem dX7_ask_2 : decode cX7_ask 2 = .ok (.iload_n 3, 1) := by decide +kernel
theorem dX7_ask_3 : decode cX7_ask 3 = .ok (.invokestatic 263, 3) := by decide +kernel
theorem dX7_ask_6 : decode cX7_ask 6 = .ok (.istore 4, 2) := by decide +kernel
theorem dX7_ask_8 : decode cX7_ask 8 = .ok (.iload 4, 2) := by decide +kernel
theorem dX7_ask_10 : decode cX7_ask 10 = .ok (.ifCond .eq 10, 3) := by decide +kernel
theorem dX7_ask_13 : decode cX7_ask 13 = .ok (.aload_n 0, 1) := by decide +kernel
theorem dX7_ask_14 : decode cX7_ask 14 = .ok (.iload 4, 2) := by decide +kernel
theorem dX7_ask_16 : decode cX7_ask 16 = .ok (.invokevirtual 294, 3) := by decide +kernel
theorem dX7_ask_19 : decode cX7_ask 19 = .ok (.ireturn, 1) := by decide +kernel
theorem dX7_ask_20 : decode cX7_ask 20 = .ok (.aload_n 0, 1) := by decide +kernel
theorem dX7_ask_21 : decode cX7_ask 21 = .ok (.iload_n 1, 1) := by decide +kernel
theorem dX7_ask_22 : decode cX7_ask 22 = .ok (.iload_n 2, 1) := by decide +kernel
theorem dX7_ask_23 : decode cX7_ask 23 = .ok (.iload_n 3, 1) := by decide +kernel
theorem dX7_ask_24 : decode cX7_ask 24 = .ok (.invokevirtual 266, 3) := by decide +kernel
theorem dX7_ask_27 : decode cX7_ask 27 = .ok (.aload_n 0, 1) := by decide +kernel
theorem dX7_ask_28 : decode cX7_ask 28 = .ok (.invokevirtual 270, 3) := by decide +kernel
theorem dX7_ask_31 : decode cX7_ask 31 = .ok (.iconst 2, 1) := by decide +kernel
theorem dX7_ask_32 : decode cX7_ask 32 = .ok (.if_icmp .ne 12, 3) := by decide +kernel
theorem dX7_ask_35 : decode cX7_ask 35 = .ok (.aload_n 0, 1) := by decide +kernel
theorem dX7_ask_36 : decode cX7_ask 36 = .ok (.bipush (-5), 2) := by decide +kernel
theorem dX7_ask_38 : decode cX7_ask 38 = .ok (.invokevirtual 294, 3) := by decide +kernel
theorem dX7_ask_41 : decode cX7_ask 41 = .ok (.goto 7, 3) := by decide +kernel
theorem dX7_ask_44 : decode cX7_ask 44 = .ok (.aload_n 0, 1) := by decide +kernel
theorem dX7_ask_45 : decode cX7_ask 45 = .ok (.invokevirtual 183, 3) := by decide +kernel
theorem dX7_ask_48 : decode cX7_ask 48 = .ok (.ireturn, 1) := by decide +kernel
theorem dX7_would_0 : decode cX7_would 0 = .ok (.iload_n 1, 1) := by decide +kernel
theorem dX7_would_1 : decode cX7_would 1 = .ok (.iload_n 2, 1) := by decide +kernel
theorem dX7_would_2 : decode cX7_would 2 = .ok (.iload_n 3, 1) := by decide +kernel
theorem dX7_would_3 : decode cX7_would 3 = .ok (.invokestatic 263, 3) := by decide +kernel
theorem dX7_would_6 : decode cX7_would 6 = .ok (.istore 4, 2) := by decide +kernel
theorem dX7_would_8 : decode cX7_would 8 = .ok (.iload 4, 2) := by decide +kernel
theorem dX7_would_10 : decode cX7_would 10 = .ok (.ifCond .eq 10, 3) := by decide +kernel
theorem dX7_would_13 : decode cX7_would 13 = .ok (.aload_n 0, 1) := by decide +kernel
theorem dX7_would_14 : decode cX7_would 14 = .ok (.iload 4, 2) := by decide +kernel
theorem dX7_would_16 : decode cX7_would 16 = .ok (.invokevirtual 213, 3) := by decide +kernel
theorem dX7_would_19 : decode cX7_would 19 = .ok (.ireturn, 1) := by decide +kernel
theorem dX7_would_20 : decode cX7_would 20 = .ok (.aload_n 0, 1) := by decide +kernel
theorem dX7_would_21 : decode cX7_would 21 = .ok (.iload_n 1, 1) := by decide +kernel
theorem dX7_would_22 : decode cX7_would 22 = .ok (.iload_n 2, 1) := by decide +kernel
theorem dX7_would_23 : decode cX7_would 23 = .ok (.iload_n 3, 1) := by decide +kernel
theorem dX7_would_24 : decode cX7_would 24 = .ok (.invokevirtual 266, 3) := by decide +kernel
theorem dX7_would_27 : decode cX7_would 27 = .ok (.aload_n 0, 1) := by decide +kernel
theorem dX7_would_28 : decode cX7_would 28 = .ok (.invokevirtual 186, 3) := by decide +kernel
theorem dX7_would_31 : decode cX7_would 31 = .ok (.ireturn, 1) := by decide +kernel
theorem dX7_findSums_0 : decode cX7_findSums 0 = .ok (.aload_n 0, 1) := by decide +kernel
theorem dX7_findSums_1 : decode cX7_findSums 1 = .ok (.invokevirtual 173, 3) := by decide +kernel
theorem dX7_findSums_4 : decode cX7_findSums 4 = .ok (.iconst 0, 1) := by decide +kernel
theorem dX7_findSums_5 : decode cX7_findSums 5 = .ok (.istore_n 1, 1) := by decide +kernel
theorem dX7_findSums_6 : decode cX7_findSums 6 = .ok (.iload_n 1, 1) := by decide +kernel
theorem dX7_findSums_7 : decode cX7_findSums 7 = .ok (.iconst 3, 1) := by decide +kernel
theorem dX7_findSums_8 : decode cX7_findSums 8 = .ok (.if_icmp .ge 16, 3) := by decide +kernel
theorem dX7_findSums_11 : decode cX7_findSums 11 = .ok (.aload_n 0, 1) := by decide +kernel
theorem dX7_findSums_12 : decode cX7_findSums 12 = .ok (.getfield 68, 3) := by decide +kernel
theorem dX7_findSums_15 : decode cX7_findSums 15 = .ok (.iload_n 1, 1) := by decide +kernel
theorem dX7_findSums_16 : decode cX7_findSums 16 = .ok (.iconst 0, 1) := by decide +kernel
theorem dX7_findSums_17 : decode cX7_findSums 17 = .ok (.iastore, 1) := by decide +kernel
theorem dX7_findSums_18 : decode cX7_findSums 18 = .ok (.iinc 1 1, 3) := by decide +kernel
theorem dX7_findSums_21 : decode cX7_findSums 21 = .ok (.goto (-15), 3) := by decide +kernel
theorem dX7_findSums_24 : decode cX7_findSums 24 = .ok (.iconst 1, 1) := by decide +kernel
theorem dX7_findSums_25 : decode cX7_findSums 25 = .ok (.istore_n 1, 1) := by decide +kernel
theorem dX7_findSums_26 : decode cX7_findSums 26 = .ok (.iload_n 1, 1) := by decide +kernel
theorem dX7_findSums_27 : decode cX7_findSums 27 = .ok (.sipush 255, 3) := by decide +kernel
theorem dX7_findSums_30 : decode cX7_findSums 30 = .ok (.if_icmp .gt 49, 3) := by decide +kernel
theorem dX7_findSums_33 : decode cX7_findSums 33 = .ok (.aload_n 0, 1) := by decide +kernel
theorem dX7_findSums_34 : decode cX7_findSums 34 = .ok (.iconst 0, 1) := by decide +kernel
theorem dX7_findSums_35 : decode cX7_findSums 35 = .ok (.iload_n 1, 1) := by decide +kernel
theorem dX7_findSums_36 : decode cX7_findSums 36 = .ok (.iconst 0, 1) := by decide +kernel
theorem dX7_findSums_37 : decode cX7_findSums 37 = .ok (.invokevirtual 266, 3) := by decide +kernel
theorem dX7_findSums_40 : decode cX7_findSums 40 = .ok (.aload_n 0, 1) := by decide +kernel
theorem dX7_findSums_41 : decode cX7_findSums 41 = .ok (.getfield 65, 3) := by decide +kernel
theorem dX7_findSums_44 : decode cX7_findSums 44 = .ok (.iload_n 1, 1) := by decide +kernel
theorem dX7_findSums_45 : decode cX7_findSums 45 = .ok (.aload_n 0, 1) := by decide +kernel
theorem dX7_findSums_46 : decode cX7_findSums 46 = .ok (.aload_n 0, 1) := by decide +kernel
theorem dX7_findSums_47 : decode cX7_findSums 47 = .ok (.getfield 176, 3) := by decide +kernel
theorem dX7_findSums_50 : decode cX7_findSums 50 = .ok (.aload_n 0, 1) := by decide +kernel
theorem dX7_findSums_51 : decode cX7_findSums 51 = .ok (.getfield 90, 3) := by decide +kernel
theorem dX7_findSums_54 : decode cX7_findSums 54 = .ok (.invokevirtual 179, 3) := by decide +kernel
theorem dX7_findSums_57 : decode cX7_findSums 57 = .ok (.iastore, 1) := by decide +kernel
theorem dX7_findSums_58 : decode cX7_findSums 58 = .ok (.aload_n 0, 1) := by decide +kernel
theorem dX7_findSums_59 : decode cX7_findSums 59 = .ok (.getfield 68, 3) := by decide +kernel
theorem dX7_findSums_62 : decode cX7_findSums 62 = .ok (.aload_n 0, 1) := by decide +kernel
theorem dX7_findSums_63 : decode cX7_findSums 63 = .ok (.getfield 65, 3) := by decide +kernel
theorem dX7_findSums_66 : decode cX7_findSums 66 = .ok (.iload_n 1, 1) := by decide +kernel
theorem dX7_findSums_67 : decode cX7_findSums 67 = .ok (.iaload, 1) := by decide +kernel
theorem dX7_findSums_68 : decode cX7_findSums 68 = .ok (.dup2, 1) := by decide +kernel
theorem dX7_findSums_69 : decode cX7_findSums 69 = .ok (.iaload, 1) := by decide +kernel
theorem dX7_findSums_70 : decode cX7_findSums 70 = .ok (.iconst 1, 1) := by decide +kernel
theorem dX7_findSums_71 : decode cX7_findSums 71 = .ok (.iadd, 1) := by decide +kernel
theorem dX7_findSums_72 : decode cX7_findSums 72 = .ok (.iastore, 1) := by decide +kernel
theorem dX7_findSums_73 : decode cX7_findSums 73 = .ok (.iinc 1 1, 3) := by decide +kernel
theorem dX7_findSums_76 : decode cX7_findSums 76 = .ok (.goto (-50), 3) := by decide +kernel
theorem dX7_findSums_79 : decode cX7_findSums 79 = .ok (.return_, 1) := by decide +kernel
theorem dX7_firstToJoin_0 : decode cX7_firstToJoin 0 = .ok (.iconst 1, 1) := by decide +kernel
theorem dX7_firstToJoin_1 : decode cX7_firstToJoin 1 = .ok (.istore_n 1, 1) := by decide +kernel
theorem dX7_firstToJoin_2 : decode cX7_firstToJoin 2 = .ok (.iload_n 1, 1) := by decide +kernel
theorem dX7_firstToJoin_3 : decode cX7_firstToJoin 3 = .ok (.sipush 255, 3) := by decide +kernel
theorem dX7_firstToJoin_6 : decode cX7_firstToJoin 6 = .ok (.if_icmp .gt 21, 3) := by decide +kernel
theorem dX7_firstToJoin_9 : decode cX7_firstToJoin 9 = .ok (.aload_n 0, 1) := by decide +kernel
theorem dX7_firstToJoin_10 : decode cX7_firstToJoin 10 = .ok (.getfield 65, 3) := by decide +kernel
theorem dX7_firstToJoin_13 : decode cX7_firstToJoin 13 = .ok (.iload_n 1, 1) := by decide +kernel
theorem dX7_firstToJoin_14 : decode cX7_firstToJoin 14 = .ok (.iaload, 1) := by decide +kernel
theorem dX7_firstToJoin_15 : decode cX7_firstToJoin 15 = .ok (.iconst 1, 1) := by decide +kernel
theorem dX7_firstToJoin_16 : decode cX7_firstToJoin 16 = .ok (.if_icmp .ne 5, 3) := by decide +kernel
theorem dX7_firstToJoin_19 : decode cX7_firstToJoin 19 = .ok (.iload_n 1, 1) := by decide +kernel
theorem dX7_firstToJoin_20 : decode cX7_firstToJoin 20 = .ok (.ireturn, 1) := by decide +kernel
theorem dX7_firstToJoin_21 : decode cX7_firstToJoin 21 = .ok (.iinc 1 1, 3) := by decide +kernel
theorem dX7_firstToJoin_24 : decode cX7_firstToJoin 24 = .ok (.goto (-22), 3) := by decide +kernel
theorem dX7_firstToJoin_27 : decode cX7_firstToJoin 27 = .ok (.bipush (-9), 2) := by decide +kernel
theorem dX7_firstToJoin_29 : decode cX7_firstToJoin 29 = .ok (.ireturn, 1) := by decide +kernel
theorem dX7_sums_0 : decode cX7_sums 0 = .ok (.iload_n 1, 1) := by decide +kernel
theorem dX7_sums_1 : decode cX7_sums 1 = .ok (.iconst 0, 1) := by decide +kernel
theorem dX7_sums_2 : decode cX7_sums 2 = .ok (.iconst 3, 1) := by decide +kernel
theorem dX7_sums_3 : decode cX7_sums 3 = .ok (.invokestatic 96, 3) := by decide +kernel
theorem dX7_sums_6 : decode cX7_sums 6 = .ok (.ifCond .ne 10, 3) := by decide +kernel
theorem dX7_sums_9 : decode cX7_sums 9 = .ok (.aload_n 0, 1) := by decide +kernel
theorem dX7_sums_10 : decode cX7_sums 10 = .ok (.bipush (-2), 2) := by decide +kernel
theorem dX7_sums_12 : decode cX7_sums 12 = .ok (.invokevirtual 213, 3) := by decide +kernel
theorem dX7_sums_15 : decode cX7_sums 15 = .ok (.ireturn, 1) := by decide +kernel
theorem dX7_sums_16 : decode cX7_sums 16 = .ok (.aload_n 0, 1) := by decide +kernel
theorem dX7_sums_17 : decode cX7_sums 17 = .ok (.invokevirtual 297, 3) := by decide +kernel
theorem dX7_sums_20 : decode cX7_sums 20 = .ok (.iload_n 1, 1) := by decide +kernel
theorem dX7_sums_21 : decode cX7_sums 21 = .ok (.ifCond .ne 10, 3) := by decide +kernel
theorem dX7_sums_24 : decode cX7_sums 24 = .ok (.aload_n 0, 1) := by decide +kernel
theorem dX7_sums_25 : decode cX7_sums 25 = .ok (.invokevirtual 300, 3) := by decide +kernel
theorem dX7_sums_28 : decode cX7_sums 28 = .ok (.goto 37, 3) := by decide +kernel
theorem dX7_sums_31 : decode cX7_sums 31 = .ok (.iload_n 1, 1) := by decide +kernel
theorem dX7_sums_32 : decode cX7_sums 32 = .ok (.iconst 1, 1) := by decide +kernel
theorem dX7_sums_33 : decode cX7_sums 33 = .ok (.if_icmp .ne 12, 3) := by decide +kernel
theorem dX7_sums_36 : decode cX7_sums 36 = .ok (.aload_n 0, 1) := by decide +kernel
theorem dX7_sums_37 : decode cX7_sums 37 = .ok (.getfield 68, 3) := by decide +kernel
theorem dX7_sums_40 : decode cX7_sums 40 = .ok (.iconst 1, 1) := by decide +kernel
theorem dX7_sums_41 : decode cX7_sums 41 = .ok (.iaload, 1) := by decide +kernel
theorem dX7_sums_42 : decode cX7_sums 42 = .ok (.goto 23, 3) := by decide +kernel
theorem dX7_sums_45 : decode cX7_sums 45 = .ok (.iload_n 1, 1) := by decide +kernel
theorem dX7_sums_46 : decode cX7_sums 46 = .ok (.iconst 2, 1) := by decide +kernel
theorem dX7_sums_47 : decode cX7_sums 47 = .ok (.if_icmp .ne 12, 3) := by decide +kernel
theorem dX7_sums_50 : decode cX7_sums 50 = .ok (.aload_n 0, 1) := by decide +kernel
theorem dX7_sums_51 : decode cX7_sums 51 = .ok (.getfield 68, 3) := by decide +kernel
theorem dX7_sums_54 : decode cX7_sums 54 = .ok (.iconst 2, 1) := by decide +kernel
theorem dX7_sums_55 : decode cX7_sums 55 = .ok (.iaload, 1) := by decide +kernel
theorem dX7_sums_56 : decode cX7_sums 56 = .ok (.goto 9, 3) := by decide +kernel
theorem dX7_sums_59 : decode cX7_sums 59 = .ok (.aload_n 0, 1) := by decide +kernel
theorem dX7_sums_60 : decode cX7_sums 60 = .ok (.getfield 68, 3) := by decide +kernel
theorem dX7_sums_63 : decode cX7_sums 63 = .ok (.iconst 0, 1) := by decide +kernel
theorem dX7_sums_64 : decode cX7_sums 64 = .ok (.iaload, 1) := by decide +kernel
theorem dX7_sums_65 : decode cX7_sums 65 = .ok (.ireturn, 1) := by decide +kernel
theorem dX7_cheapest_0 : decode cX7_cheapest 0 = .ok (.iload_n 1, 1) := by decide +kernel
theorem dX7_cheapest_1 : decode cX7_cheapest 1 = .ok (.iconst 0, 1) := by decide +kernel
theorem dX7_cheapest_2 : decode cX7_cheapest 2 = .ok (.iconst 1, 1) := by decide +kernel
theorem dX7_cheapest_3 : decode cX7_cheapest 3 = .ok (.invokestatic 96, 3) := by decide +kernel
theorem dX7_cheapest_6 : decode cX7_cheapest 6 = .ok (.ifCond .ne 10, 3) := by decide +kernel
theorem dX7_cheapest_9 : decode cX7_cheapest 9 = .ok (.aload_n 0, 1) := by decide +kernel
theorem dX7_cheapest_10 : decode cX7_cheapest 10 = .ok (.bipush (-2), 2) := by decide +kernel
theorem dX7_cheapest_12 : decode cX7_cheapest 12 = .ok (.invokevirtual 213, 3) := by decide +kernel
theorem dX7_cheapest_15 : decode cX7_cheapest 15 = .ok (.ireturn, 1) := by decide +kernel
theorem dX7_cheapest_16 : decode cX7_cheapest 16 = .ok (.aload_n 0, 1) := by decide +kernel
theorem dX7_cheapest_17 : decode cX7_cheapest 17 = .ok (.invokevirtual 297, 3) := by decide +kernel
theorem dX7_cheapest_20 : decode cX7_cheapest 20 = .ok (.bipush (-9), 2) := by decide +kernel
theorem dX7_cheapest_22 : decode cX7_cheapest 22 = .ok (.istore_n 2, 1) := by decide +kernel
theorem dX7_cheapest_23 : decode cX7_cheapest 23 = .ok (.iconst 1, 1) := by decide +kernel
theorem dX7_cheapest_24 : decode cX7_cheapest 24 = .ok (.istore_n 3, 1) := by decide +kernel
theorem dX7_cheapest_25 : decode cX7_cheapest 25 = .ok (.iload_n 3, 1) := by decide +kernel
theorem dX7_cheapest_26 : decode cX7_cheapest 26 = .ok (.sipush 255, 3) := by decide +kernel
theorem dX7_cheapest_29 : decode cX7_cheapest 29 = .ok (.if_icmp .gt 36, 3) := by decide +kernel
theorem dX7_cheapest_32 : decode cX7_cheapest 32 = .ok (.aload_n 0, 1) := by decide +kernel
theorem dX7_cheapest_33 : decode cX7_cheapest 33 = .ok (.getfield 65, 3) := by decide +kernel
theorem dX7_cheapest_36 : decode cX7_cheapest 36 = .ok (.iload_n 3, 1) := by decide +kernel
theorem dX7_cheapest_37 : decode cX7_cheapest 37 = .ok (.iaload, 1) := by decide +kernel
theorem dX7_cheapest_38 : decode cX7_cheapest 38 = .ok (.iconst 1, 1) := by decide +kernel
theorem dX7_cheapest_39 : decode cX7_cheapest 39 = .ok (.if_icmp .ne 20, 3) := by decide +kernel
theorem dX7_cheapest_42 : decode cX7_cheapest 42 = .ok (.iload_n 2, 1) := by decide +kernel
theorem dX7_cheapest_43 : decode cX7_cheapest 43 = .ok (.ifCond .lt 14, 3) := by decide +kernel
theorem dX7_cheapest_46 : decode cX7_cheapest 46 = .ok (.iload_n 3, 1) := by decide +kernel
theorem dX7_cheapest_47 : decode cX7_cheapest 47 = .ok (.invokestatic 303, 3) := by decide +kernel
theorem dX7_cheapest_50 : decode cX7_cheapest 50 = .ok (.iload_n 2, 1) := by decide +kernel
theorem dX7_cheapest_51 : decode cX7_cheapest 51 = .ok (.invokestatic 303, 3) := by decide +kernel
theorem dX7_cheapest_54 : decode cX7_cheapest 54 = .ok (.if_icmp .ge 5, 3) := by decide +kernel
theorem dX7_cheapest_57 : decode cX7_cheapest 57 = .ok (.iload_n 3, 1) := by decide +kernel
theorem dX7_cheapest_58 : decode cX7_cheapest 58 = .ok (.istore_n 2, 1) := by decide +kernel
theorem dX7_cheapest_59 : decode cX7_cheapest 59 = .ok (.iinc 3 1, 3) := by decide +kernel
theorem dX7_cheapest_62 : decode cX7_cheapest 62 = .ok (.goto (-37), 3) := by decide +kernel
theorem dX7_cheapest_65 : decode cX7_cheapest 65 = .ok (.iload_n 2, 1) := by decide +kernel
theorem dX7_cheapest_66 : decode cX7_cheapest 66 = .ok (.ifCond .ge 8, 3) := by decide +kernel
theorem dX7_cheapest_69 : decode cX7_cheapest 69 = .ok (.bipush (-9), 2) := by decide +kernel
theorem dX7_cheapest_71 : decode cX7_cheapest 71 = .ok (.goto 15, 3) := by decide +kernel
theorem dX7_cheapest_74 : decode cX7_cheapest 74 = .ok (.iload_n 1, 1) := by decide +kernel
theorem dX7_cheapest_75 : decode cX7_cheapest 75 = .ok (.ifCond .ne 7, 3) := by decide +kernel
theorem dX7_cheapest_78 : decode cX7_cheapest 78 = .ok (.iload_n 2, 1) := by decide +kernel
theorem dX7_cheapest_79 : decode cX7_cheapest 79 = .ok (.goto 7, 3) := by decide +kernel
theorem dX7_cheapest_82 : decode cX7_cheapest 82 = .ok (.iload_n 2, 1) := by decide +kernel
theorem dX7_cheapest_83 : decode cX7_cheapest 83 = .ok (.invokestatic 303, 3) := by decide +kernel
theorem dX7_cheapest_86 : decode cX7_cheapest 86 = .ok (.ireturn, 1) := by decide +kernel
theorem dX7_isRow_0 : decode cX7_isRow 0 = .ok (.iload_n 1, 1) := by decide +kernel
theorem dX7_isRow_1 : decode cX7_isRow 1 = .ok (.iconst 0, 1) := by decide +kernel
theorem dX7_isRow_2 : decode cX7_isRow 2 = .ok (.aload_n 0, 1) := by decide +kernel
theorem dX7_isRow_3 : decode cX7_isRow 3 = .ok (.getfield 100, 3) := by decide +kernel
theorem dX7_isRow_6 : decode cX7_isRow 6 = .ok (.iconst 1, 1) := by decide +kernel
theorem dX7_isRow_7 : decode cX7_isRow 7 = .ok (.isub, 1) := by decide +kernel
theorem dX7_isRow_8 : decode cX7_isRow 8 = .ok (.invokestatic 96, 3) := by decide +kernel
theorem dX7_isRow_11 : decode cX7_isRow 11 = .ok (.ireturn, 1) := by decide +kernel
theorem dX7_ledger_0 : decode cX7_ledger 0 = .ok (.aload_n 0, 1) := by decide +kernel
theorem dX7_ledger_1 : decode cX7_ledger 1 = .ok (.iload_n 1, 1) := by decide +kernel
theorem dX7_ledger_2 : decode cX7_ledger 2 = .ok (.invokevirtual 306, 3) := by decide +kernel
theorem dX7_ledger_5 : decode cX7_ledger 5 = .ok (.ifCond .eq 28, 3) := by decide +kernel
theorem dX7_ledger_8 : decode cX7_ledger 8 = .ok (.aload_n 0, 1) := by decide +kernel
theorem dX7_ledger_9 : decode cX7_ledger 9 = .ok (.iload_n 2, 1) := by decide +kernel
theorem dX7_ledger_10 : decode cX7_ledger 10 = .ok (.invokevirtual 257, 3) := by decide +kernel
theorem dX7_ledger_13 : decode cX7_ledger 13 = .ok (.ifCond .eq 20, 3) := by decide +kernel
theorem dX7_ledger_16 : decode cX7_ledger 16 = .ok (.aload_n 0, 1) := by decide +kernel
theorem dX7_ledger_17 : decode cX7_ledger 17 = .ok (.getfield 25, 3) := by decide +kernel
theorem dX7_ledger_20 : decode cX7_ledger 20 = .ok (.bipush 10, 2) := by decide +kernel
theorem dX7_ledger_22 : decode cX7_ledger 22 = .ok (.iload_n 1, 1) := by decide +kernel
theorem dX7_ledger_23 : decode cX7_ledger 23 = .ok (.imul, 1) := by decide +kernel
theorem dX7_ledger_24 : decode cX7_ledger 24 = .ok (.iload_n 2, 1) := by decide +kernel
theorem dX7_ledger_25 : decode cX7_ledger 25 = .ok (.iadd, 1) := by decide +kernel
theorem dX7_ledger_26 : decode cX7_ledger 26 = .ok (.iaload, 1) := by decide +kernel
theorem dX7_ledger_27 : decode cX7_ledger 27 = .ok (.bipush 100, 2) := by decide +kernel
theorem dX7_ledger_29 : decode cX7_ledger 29 = .ok (.iadd, 1) := by decide +kernel
theorem dX7_ledger_30 : decode cX7_ledger 30 = .ok (.goto 8, 3) := by decide +kernel
theorem dX7_ledger_33 : decode cX7_ledger 33 = .ok (.aload_n 0, 1) := by decide +kernel
theorem dX7_ledger_34 : decode cX7_ledger 34 = .ok (.iconst (-1), 1) := by decide +kernel
theorem dX7_ledger_35 : decode cX7_ledger 35 = .ok (.invokevirtual 213, 3) := by decide +kernel
theorem dX7_ledger_38 : decode cX7_ledger 38 = .ok (.ireturn, 1) := by decide +kernel
theorem dX7_answer_0 : decode cX7_answer 0 = .ok (.aload_n 0, 1) := by decide +kernel
theorem dX7_answer_1 : decode cX7_answer 1 = .ok (.iload_n 1, 1) := by decide +kernel
theorem dX7_answer_2 : decode cX7_answer 2 = .ok (.invokevirtual 306, 3) := by decide +kernel
theorem dX7_answer_5 : decode cX7_answer 5 = .ok (.ifCond .eq 13, 3) := by decide +kernel
theorem dX7_answer_8 : decode cX7_answer 8 = .ok (.aload_n 0, 1) := by decide +kernel
theorem dX7_answer_9 : decode cX7_answer 9 = .ok (.getfield 28, 3) := by decide +kernel
theorem dX7_answer_12 : decode cX7_answer 12 = .ok (.iload_n 1, 1) := by decide +kernel
theorem dX7_answer_13 : decode cX7_answer 13 = .ok (.iaload, 1) := by decide +kernel
theorem dX7_answer_14 : decode cX7_answer 14 = .ok (.i2l, 1) := by decide +kernel
theorem dX7_answer_15 : decode cX7_answer 15 = .ok (.goto 8, 3) := by decide +kernel
theorem dX7_answer_18 : decode cX7_answer 18 = .ok (.aload_n 0, 1) := by decide +kernel
theorem dX7_answer_19 : decode cX7_answer 19 = .ok (.iconst (-1), 1) := by decide +kernel
theorem dX7_answer_20 : decode cX7_answer 20 = .ok (.invokevirtual 309, 3) := by decide +kernel
theorem dX7_answer_23 : decode cX7_answer 23 = .ok (.lreturn, 1) := by decide +kernel
theorem dX7_partOf_0 : decode cX7_partOf 0 = .ok (.iload 4, 2) := by decide +kernel
theorem dX7_partOf_2 : decode cX7_partOf 2 = .ok (.ifCond .ne 7, 3) := by decide +kernel
theorem dX7_partOf_5 : decode cX7_partOf 5 = .ok (.lload_n 0, 1) := by decide +kernel
theorem dX7_partOf_6 : decode cX7_partOf 6 = .ok (.goto 4, 3) := by decide +kernel
theorem dX7_partOf_9 : decode cX7_partOf 9 = .ok (.lload_n 2, 1) := by decide +kernel
theorem dX7_partOf_10 : decode cX7_partOf 10 = .ok (.lload_n 0, 1) := by decide +kernel
theorem dX7_partOf_11 : decode cX7_partOf 11 = .ok (.lload_n 2, 1) := by decide +kernel
theorem dX7_partOf_12 : decode cX7_partOf 12 = .ok (.invokestatic 118, 3) := by decide +kernel
theorem dX7_partOf_15 : decode cX7_partOf 15 = .ok (.ldiv, 1) := by decide +kernel
theorem dX7_partOf_16 : decode cX7_partOf 16 = .ok (.lreturn, 1) := by decide +kernel
theorem dX7_byPivots_0 : decode cX7_byPivots 0 = .ok (.iconst 0, 1) := by decide +kernel
theorem dX7_byPivots_1 : decode cX7_byPivots 1 = .ok (.istore_n 2, 1) := by decide +kernel
theorem dX7_byPivots_2 : decode cX7_byPivots 2 = .ok (.iload_n 2, 1) := by decide +kernel
theorem dX7_byPivots_3 : decode cX7_byPivots 3 = .ok (.aload_n 0, 1) := by decide +kernel
theorem dX7_byPivots_4 : decode cX7_byPivots 4 = .ok (.getfield 129, 3) := by decide +kernel
theorem dX7_byPivots_7 : decode cX7_byPivots 7 = .ok (.if_icmp .ge 60, 3) := by decide +kernel
theorem dX7_byPivots_10 : decode cX7_byPivots 10 = .ok (.iconst 0, 1) := by decide +kernel
theorem dX7_byPivots_11 : decode cX7_byPivots 11 = .ok (.istore_n 3, 1) := by decide +kernel
theorem dX7_byPivots_12 : decode cX7_byPivots 12 = .ok (.iconst 0, 1) := by decide +kernel
theorem dX7_byPivots_13 : decode cX7_byPivots 13 = .ok (.istore 4, 2) := by decide +kernel
theorem dX7_byPivots_15 : decode cX7_byPivots 15 = .ok (.iload 4, 2) := by decide +kernel
theorem dX7_byPivots_17 : decode cX7_byPivots 17 = .ok (.aload_n 0, 1) := by decide +kernel
theorem dX7_byPivots_18 : decode cX7_byPivots 18 = .ok (.getfield 129, 3) := by decide +kernel
theorem dX7_byPivots_21 : decode cX7_byPivots 21 = .ok (.if_icmp .ge 33, 3) := by decide +kernel
theorem dX7_byPivots_24 : decode cX7_byPivots 24 = .ok (.iload_n 3, 1) := by decide +kernel
theorem dX7_byPivots_25 : decode cX7_byPivots 25 = .ok (.aload_n 0, 1) := by decide +kernel
theorem dX7_byPivots_26 : decode cX7_byPivots 26 = .ok (.getfield 47, 3) := by decide +kernel
theorem dX7_byPivots_29 : decode cX7_byPivots 29 = .ok (.iload 4, 2) := by decide +kernel
theorem dX7_byPivots_31 : decode cX7_byPivots 31 = .ok (.iaload, 1) := by decide +kernel
theorem dX7_byPivots_32 : decode cX7_byPivots 32 = .ok (.aload_n 0, 1) := by decide +kernel
theorem dX7_byPivots_33 : decode cX7_byPivots 33 = .ok (.getfield 47, 3) := by decide +kernel
theorem dX7_byPivots_36 : decode cX7_byPivots 36 = .ok (.iload_n 2, 1) := by decide +kernel
theorem dX7_byPivots_37 : decode cX7_byPivots 37 = .ok (.iaload, 1) := by decide +kernel
theorem dX7_byPivots_38 : decode cX7_byPivots 38 = .ok (.if_icmp .ge 7, 3) := by decide +kernel
theorem dX7_byPivots_41 : decode cX7_byPivots 41 = .ok (.iconst 1, 1) := by decide +kernel
theorem dX7_byPivots_42 : decode cX7_byPivots 42 = .ok (.goto 4, 3) := by decide +kernel
theorem dX7_byPivots_45 : decode cX7_byPivots 45 = .ok (.iconst 0, 1) := by decide +kernel
theorem dX7_byPivots_46 : decode cX7_byPivots 46 = .ok (.iadd, 1) := by decide +kernel
theorem dX7_byPivots_47 : decode cX7_byPivots 47 = .ok (.istore_n 3, 1) := by decide +kernel
theorem dX7_byPivots_48 : decode cX7_byPivots 48 = .ok (.iinc 4 1, 3) := by decide +kernel
theorem dX7_byPivots_51 : decode cX7_byPivots 51 = .ok (.goto (-36), 3) := by decide +kernel
theorem dX7_byPivots_54 : decode cX7_byPivots 54 = .ok (.iload_n 3, 1) := by decide +kernel
theorem dX7_byPivots_55 : decode cX7_byPivots 55 = .ok (.iload_n 1, 1) := by decide +kernel
theorem dX7_byPivots_56 : decode cX7_byPivots 56 = .ok (.if_icmp .ne 5, 3) := by decide +kernel
theorem dX7_byPivots_59 : decode cX7_byPivots 59 = .ok (.iload_n 2, 1) := by decide +kernel
theorem dX7_byPivots_60 : decode cX7_byPivots 60 = .ok (.ireturn, 1) := by decide +kernel
theorem dX7_byPivots_61 : decode cX7_byPivots 61 = .ok (.iinc 2 1, 3) := by decide +kernel
theorem dX7_byPivots_64 : decode cX7_byPivots 64 = .ok (.goto (-62), 3) := by decide +kernel
theorem dX7_byPivots_67 : decode cX7_byPivots 67 = .ok (.iconst 0, 1) := by decide +kernel
theorem dX7_byPivots_68 : decode cX7_byPivots 68 = .ok (.ireturn, 1) := by decide +kernel
theorem dX7_reduced_0 : decode cX7_reduced 0 = .ok (.aload_n 0, 1) := by decide +kernel
theorem dX7_reduced_1 : decode cX7_reduced 1 = .ok (.iload_n 1, 1) := by decide +kernel
theorem dX7_reduced_2 : decode cX7_reduced 2 = .ok (.invokevirtual 306, 3) := by decide +kernel
theorem dX7_reduced_5 : decode cX7_reduced 5 = .ok (.ifCond .eq 11, 3) := by decide +kernel
theorem dX7_reduced_8 : decode cX7_reduced 8 = .ok (.aload_n 0, 1) := by decide +kernel
theorem dX7_reduced_9 : decode cX7_reduced 9 = .ok (.iload_n 2, 1) := by decide +kernel
theorem dX7_reduced_10 : decode cX7_reduced 10 = .ok (.invokevirtual 257, 3) := by decide +kernel
theorem dX7_reduced_13 : decode cX7_reduced 13 = .ok (.ifCond .ne 7, 3) := by decide +kernel
theorem dX7_reduced_16 : decode cX7_reduced 16 = .ok (.iconst (-1), 1) := by decide +kernel
theorem dX7_reduced_17 : decode cX7_reduced 17 = .ok (.goto 18, 3) := by decide +kernel
theorem dX7_reduced_20 : decode cX7_reduced 20 = .ok (.iload_n 3, 1) := by decide +kernel
theorem dX7_reduced_21 : decode cX7_reduced 21 = .ok (.iconst 0, 1) := by decide +kernel
theorem dX7_reduced_22 : decode cX7_reduced 22 = .ok (.iconst 1, 1) := by decide +kernel
theorem dX7_reduced_23 : decode cX7_reduced 23 = .ok (.invokestatic 96, 3) := by decide +kernel
theorem dX7_reduced_26 : decode cX7_reduced 26 = .ok (.ifCond .ne 8, 3) := by decide +kernel
theorem dX7_reduced_29 : decode cX7_reduced 29 = .ok (.bipush (-2), 2) := by decide +kernel
theorem dX7_reduced_31 : decode cX7_reduced 31 = .ok (.goto 4, 3) := by decide +kernel
theorem dX7_reduced_34 : decode cX7_reduced 34 = .ok (.iconst 0, 1) := by decide +kernel
theorem dX7_reduced_35 : decode cX7_reduced 35 = .ok (.istore 4, 2) := by decide +kernel
theorem dX7_reduced_37 : decode cX7_reduced 37 = .ok (.iload 4, 2) := by decide +kernel
theorem dX7_reduced_39 : decode cX7_reduced 39 = .ok (.ifCond .eq 10, 3) := by decide +kernel
theorem dX7_reduced_42 : decode cX7_reduced 42 = .ok (.aload_n 0, 1) := by decide +kernel
theorem dX7_reduced_43 : decode cX7_reduced 43 = .ok (.iload 4, 2) := by decide +kernel
theorem dX7_reduced_45 : decode cX7_reduced 45 = .ok (.invokevirtual 309, 3) := by decide +kernel
theorem dX7_reduced_48 : decode cX7_reduced 48 = .ok (.lreturn, 1) := by decide +kernel
theorem dX7_reduced_49 : decode cX7_reduced 49 = .ok (.aload_n 0, 1) := by decide +kernel
theorem dX7_reduced_50 : decode cX7_reduced 50 = .ok (.invokevirtual 173, 3) := by decide +kernel
theorem dX7_reduced_53 : decode cX7_reduced 53 = .ok (.aload_n 0, 1) := by decide +kernel
theorem dX7_reduced_54 : decode cX7_reduced 54 = .ok (.iload_n 1, 1) := by decide +kernel
theorem dX7_reduced_55 : decode cX7_reduced 55 = .ok (.invokevirtual 313, 3) := by decide +kernel
theorem dX7_reduced_58 : decode cX7_reduced 58 = .ok (.istore 5, 2) := by decide +kernel
theorem dX7_reduced_60 : decode cX7_reduced 60 = .ok (.aload_n 0, 1) := by decide +kernel
theorem dX7_reduced_61 : decode cX7_reduced 61 = .ok (.getfield 38, 3) := by decide +kernel
theorem dX7_reduced_64 : decode cX7_reduced 64 = .ok (.bipush 10, 2) := by decide +kernel
theorem dX7_reduced_66 : decode cX7_reduced 66 = .ok (.iload 5, 2) := by decide +kernel
theorem dX7_reduced_68 : decode cX7_reduced 68 = .ok (.imul, 1) := by decide +kernel
theorem dX7_reduced_69 : decode cX7_reduced 69 = .ok (.iload_n 2, 1) := by decide +kernel
theorem dX7_reduced_70 : decode cX7_reduced 70 = .ok (.iadd, 1) := by decide +kernel
theorem dX7_reduced_71 : decode cX7_reduced 71 = .ok (.laload, 1) := by decide +kernel
theorem dX7_reduced_72 : decode cX7_reduced 72 = .ok (.aload_n 0, 1) := by decide +kernel
theorem dX7_reduced_73 : decode cX7_reduced 73 = .ok (.getfield 38, 3) := by decide +kernel
theorem dX7_reduced_76 : decode cX7_reduced 76 = .ok (.bipush 10, 2) := by decide +kernel
theorem dX7_reduced_78 : decode cX7_reduced 78 = .ok (.iload 5, 2) := by decide +kernel
theorem dX7_reduced_80 : decode cX7_reduced 80 = .ok (.imul, 1) := by decide +kernel
theorem dX7_reduced_81 : decode cX7_reduced 81 = .ok (.aload_n 0, 1) := by decide +kernel
theorem dX7_reduced_82 : decode cX7_reduced 82 = .ok (.getfield 47, 3) := by decide +kernel
theorem dX7_reduced_85 : decode cX7_reduced 85 = .ok (.iload 5, 2) := by decide +kernel
theorem dX7_reduced_87 : decode cX7_reduced 87 = .ok (.iaload, 1) := by decide +kernel
theorem dX7_reduced_88 : decode cX7_reduced 88 = .ok (.iadd, 1) := by decide +kernel
theorem dX7_reduced_89 : decode cX7_reduced 89 = .ok (.laload, 1) := by decide +kernel
theorem dX7_reduced_90 : decode cX7_reduced 90 = .ok (.iload_n 3, 1) := by decide +kernel
theorem dX7_reduced_91 : decode cX7_reduced 91 = .ok (.invokestatic 316, 3) := by decide +kernel
theorem dX7_reduced_94 : decode cX7_reduced 94 = .ok (.lreturn, 1) := by decide +kernel
theorem dX7_pivots_0 : decode cX7_pivots 0 = .ok (.aload_n 0, 1) := by decide +kernel
theorem dX7_pivots_1 : decode cX7_pivots 1 = .ok (.invokevirtual 173, 3) := by decide +kernel
theorem dX7_pivots_4 : decode cX7_pivots 4 = .ok (.iconst 0, 1) := by decide +kernel
theorem dX7_pivots_5 : decode cX7_pivots 5 = .ok (.istore_n 1, 1) := by decide +kernel
theorem dX7_pivots_6 : decode cX7_pivots 6 = .ok (.iconst 0, 1) := by decide +kernel
theorem dX7_pivots_7 : decode cX7_pivots 7 = .ok (.istore_n 2, 1) := by decide +kernel
theorem dX7_pivots_8 : decode cX7_pivots 8 = .ok (.iload_n 2, 1) := by decide +kernel
theorem dX7_pivots_9 : decode cX7_pivots 9 = .ok (.aload_n 0, 1) := by decide +kernel
theorem dX7_pivots_10 : decode cX7_pivots 10 = .ok (.getfield 129, 3) := by decide +kernel
theorem dX7_pivots_13 : decode cX7_pivots 13 = .ok (.if_icmp .ge 20, 3) := by decide +kernel
theorem dX7_pivots_16 : decode cX7_pivots 16 = .ok (.iload_n 1, 1) := by decide +kernel
theorem dX7_pivots_17 : decode cX7_pivots 17 = .ok (.iconst 1, 1) := by decide +kernel
theorem dX7_pivots_18 : decode cX7_pivots 18 = .ok (.aload_n 0, 1) := by decide +kernel
theorem dX7_pivots_19 : decode cX7_pivots 19 = .ok (.getfield 47, 3) := by decide +kernel
theorem dX7_pivots_22 : decode cX7_pivots 22 = .ok (.iload_n 2, 1) := by decide +kernel
theorem dX7_pivots_23 : decode cX7_pivots 23 = .ok (.iaload, 1) := by decide +kernel
theorem dX7_pivots_24 : decode cX7_pivots 24 = .ok (.ishl, 1) := by decide +kernel
theorem dX7_pivots_25 : decode cX7_pivots 25 = .ok (.ior, 1) := by decide +kernel
theorem dX7_pivots_26 : decode cX7_pivots 26 = .ok (.istore_n 1, 1) := by decide +kernel
theorem dX7_pivots_27 : decode cX7_pivots 27 = .ok (.iinc 2 1, 3) := by decide +kernel
theorem dX7_pivots_30 : decode cX7_pivots 30 = .ok (.goto (-22), 3) := by decide +kernel
theorem dX7_pivots_33 : decode cX7_pivots 33 = .ok (.iload_n 1, 1) := by decide +kernel
theorem dX7_pivots_34 : decode cX7_pivots 34 = .ok (.ireturn, 1) := by decide +kernel
theorem dX7_attack_0 : decode cX7_attack 0 = .ok (.aload_n 0, 1) := by decide +kernel
theorem dX7_attack_1 : decode cX7_attack 1 = .ok (.iload_n 1, 1) := by decide +kernel
theorem dX7_attack_2 : decode cX7_attack 2 = .ok (.invokevirtual 257, 3) := by decide +kernel
theorem dX7_attack_5 : decode cX7_attack 5 = .ok (.ifCond .ne 7, 3) := by decide +kernel
theorem dX7_attack_8 : decode cX7_attack 8 = .ok (.iconst (-1), 1) := by decide +kernel
theorem dX7_attack_9 : decode cX7_attack 9 = .ok (.goto 18, 3) := by decide +kernel
theorem dX7_attack_12 : decode cX7_attack 12 = .ok (.iload_n 2, 1) := by decide +kernel
theorem dX7_attack_13 : decode cX7_attack 13 = .ok (.iconst 0, 1) := by decide +kernel
theorem dX7_attack_14 : decode cX7_attack 14 = .ok (.iconst 1, 1) := by decide +kernel
theorem dX7_attack_15 : decode cX7_attack 15 = .ok (.invokestatic 96, 3) := by decide +kernel
theorem dX7_attack_18 : decode cX7_attack 18 = .ok (.ifCond .ne 8, 3) := by decide +kernel
theorem dX7_attack_21 : decode cX7_attack 21 = .ok (.bipush (-2), 2) := by decide +kernel
theorem dX7_attack_23 : decode cX7_attack 23 = .ok (.goto 4, 3) := by decide +kernel
theorem dX7_attack_26 : decode cX7_attack 26 = .ok (.iconst 0, 1) := by decide +kernel
theorem dX7_attack_27 : decode cX7_attack 27 = .ok (.istore_n 3, 1) := by decide +kernel
theorem dX7_attack_28 : decode cX7_attack 28 = .ok (.iload_n 3, 1) := by decide +kernel
theorem dX7_attack_29 : decode cX7_attack 29 = .ok (.ifCond .eq 9, 3) := by decide +kernel
theorem dX7_attack_32 : decode cX7_attack 32 = .ok (.aload_n 0, 1) := by decide +kernel
theorem dX7_attack_33 : decode cX7_attack 33 = .ok (.iload_n 3, 1) := by decide +kernel
theorem dX7_attack_34 : decode cX7_attack 34 = .ok (.invokevirtual 213, 3) := by decide +kernel
theorem dX7_attack_37 : decode cX7_attack 37 = .ok (.ireturn, 1) := by decide +kernel
theorem dX7_attack_38 : decode cX7_attack 38 = .ok (.aload_n 0, 1) := by decide +kernel
theorem dX7_attack_39 : decode cX7_attack 39 = .ok (.invokevirtual 173, 3) := by decide +kernel
theorem dX7_attack_42 : decode cX7_attack 42 = .ok (.bipush (-9), 2) := by decide +kernel
theorem dX7_attack_44 : decode cX7_attack 44 = .ok (.istore 4, 2) := by decide +kernel
theorem dX7_attack_46 : decode cX7_attack 46 = .ok (.iconst 0, 1) := by decide +kernel
theorem dX7_attack_47 : decode cX7_attack 47 = .ok (.istore 5, 2) := by decide +kernel
theorem dX7_attack_49 : decode cX7_attack 49 = .ok (.sipush 255, 3) := by decide +kernel
theorem dX7_attack_52 : decode cX7_attack 52 = .ok (.istore 6, 2) := by decide +kernel
theorem dX7_attack_54 : decode cX7_attack 54 = .ok (.iload 6, 2) := by decide +kernel
theorem dX7_attack_56 : decode cX7_attack 56 = .ok (.iconst 1, 1) := by decide +kernel
theorem dX7_attack_57 : decode cX7_attack 57 = .ok (.if_icmp .lt 48, 3) := by decide +kernel
theorem dX7_attack_60 : decode cX7_attack 60 = .ok (.aload_n 0, 1) := by decide +kernel
theorem dX7_attack_61 : decode cX7_attack 61 = .ok (.iconst 0, 1) := by decide +kernel
theorem dX7_attack_62 : decode cX7_attack 62 = .ok (.iload 6, 2) := by decide +kernel
theorem dX7_attack_64 : decode cX7_attack 64 = .ok (.iconst 0, 1) := by decide +kernel
theorem dX7_attack_65 : decode cX7_attack 65 = .ok (.invokevirtual 266, 3) := by decide +kernel
theorem dX7_attack_68 : decode cX7_attack 68 = .ok (.aload_n 0, 1) := by decide +kernel
theorem dX7_attack_69 : decode cX7_attack 69 = .ok (.invokevirtual 167, 3) := by decide +kernel
theorem dX7_attack_72 : decode cX7_attack 72 = .ok (.aload_n 0, 1) := by decide +kernel
theorem dX7_attack_73 : decode cX7_attack 73 = .ok (.aload_n 0, 1) := by decide +kernel
theorem dX7_attack_74 : decode cX7_attack 74 = .ok (.getfield 31, 3) := by decide +kernel
theorem dX7_attack_77 : decode cX7_attack 77 = .ok (.iconst 0, 1) := by decide +kernel
theorem dX7_attack_78 : decode cX7_attack 78 = .ok (.invokevirtual 146, 3) := by decide +kernel
theorem dX7_attack_81 : decode cX7_attack 81 = .ok (.aload_n 0, 1) := by decide +kernel
theorem dX7_attack_82 : decode cX7_attack 82 = .ok (.iload_n 1, 1) := by decide +kernel
theorem dX7_attack_83 : decode cX7_attack 83 = .ok (.invokevirtual 320, 3) := by decide +kernel
theorem dX7_attack_86 : decode cX7_attack 86 = .ok (.ifCond .ne 6, 3) := by decide +kernel
theorem dX7_attack_89 : decode cX7_attack 89 = .ok (.goto 10, 3) := by decide +kernel
theorem dX7_attack_92 : decode cX7_attack 92 = .ok (.iload 6, 2) := by decide +kernel
theorem dX7_attack_94 : decode cX7_attack 94 = .ok (.istore 4, 2) := by decide +kernel
theorem dX7_attack_96 : decode cX7_attack 96 = .ok (.iinc 5 1, 3) := by decide +kernel
theorem dX7_attack_99 : decode cX7_attack 99 = .ok (.iinc 6 (-1), 3) := by decide +kernel
theorem dX7_attack_102 : decode cX7_attack 102 = .ok (.goto (-48), 3) := by decide +kernel
theorem dX7_attack_105 : decode cX7_attack 105 = .ok (.iload_n 2, 1) := by decide +kernel
theorem dX7_attack_106 : decode cX7_attack 106 = .ok (.ifCond .ne 8, 3) := by decide +kernel
theorem dX7_attack_109 : decode cX7_attack 109 = .ok (.iload 4, 2) := by decide +kernel
theorem dX7_attack_111 : decode cX7_attack 111 = .ok (.goto 5, 3) := by decide +kernel
theorem dX7_attack_114 : decode cX7_attack 114 = .ok (.iload 5, 2) := by decide +kernel
theorem dX7_attack_116 : decode cX7_attack 116 = .ok (.ireturn, 1) := by decide +kernel
theorem dX7_below_0 : decode cX7_below 0 = .ok (.iload_n 0, 1) := by decide +kernel
theorem dX7_below_1 : decode cX7_below 1 = .ok (.ifCond .lt 9, 3) := by decide +kernel
theorem dX7_below_4 : decode cX7_below 4 = .ok (.iload_n 0, 1) := by decide +kernel
theorem dX7_below_5 : decode cX7_below 5 = .ok (.iload_n 1, 1) := by decide +kernel
theorem dX7_below_6 : decode cX7_below 6 = .ok (.idiv, 1) := by decide +kernel
theorem dX7_below_7 : decode cX7_below 7 = .ok (.goto 12, 3) := by decide +kernel
theorem dX7_below_10 : decode cX7_below 10 = .ok (.iload_n 0, 1) := by decide +kernel
theorem dX7_below_11 : decode cX7_below 11 = .ok (.ineg, 1) := by decide +kernel
theorem dX7_below_12 : decode cX7_below 12 = .ok (.iload_n 1, 1) := by decide +kernel
theorem dX7_below_13 : decode cX7_below 13 = .ok (.iadd, 1) := by decide +kernel
theorem dX7_below_14 : decode cX7_below 14 = .ok (.iconst 1, 1) := by decide +kernel
theorem dX7_below_15 : decode cX7_below 15 = .ok (.isub, 1) := by decide +kernel
theorem dX7_below_16 : decode cX7_below 16 = .ok (.iload_n 1, 1) := by decide +kernel
theorem dX7_below_17 : decode cX7_below 17 = .ok (.idiv, 1) := by decide +kernel
theorem dX7_below_18 : decode cX7_below 18 = .ok (.ineg, 1) := by decide +kernel
theorem dX7_below_19 : decode cX7_below 19 = .ok (.ireturn, 1) := by decide +kernel
theorem dX7_above_0 : decode cX7_above 0 = .ok (.iload_n 0, 1) := by decide +kernel
theorem dX7_above_1 : decode cX7_above 1 = .ok (.ineg, 1) := by decide +kernel
theorem dX7_above_2 : decode cX7_above 2 = .ok (.iload_n 1, 1) := by decide +kernel
theorem dX7_above_3 : decode cX7_above 3 = .ok (.invokestatic 323, 3) := by decide +kernel
theorem dX7_above_6 : decode cX7_above 6 = .ok (.ineg, 1) := by decide +kernel
theorem dX7_above_7 : decode cX7_above 7 = .ok (.ireturn, 1) := by decide +kernel
theorem dX7_narrowsOne_0 : decode cX7_narrowsOne 0 = .ok (.aload_n 0, 1) := by decide +kernel
theorem dX7_narrowsOne_1 : decode cX7_narrowsOne 1 = .ok (.getfield 25, 3) := by decide +kernel
theorem dX7_narrowsOne_4 : decode cX7_narrowsOne 4 = .ok (.bipush 10, 2) := by decide +kernel
theorem dX7_narrowsOne_6 : decode cX7_narrowsOne 6 = .ok (.iload_n 1, 1) := by decide +kernel
theorem dX7_narrowsOne_7 : decode cX7_narrowsOne 7 = .ok (.imul, 1) := by decide +kernel
theorem dX7_narrowsOne_8 : decode cX7_narrowsOne 8 = .ok (.iload_n 2, 1) := by decide +kernel
theorem dX7_narrowsOne_9 : decode cX7_narrowsOne 9 = .ok (.iadd, 1) := by decide +kernel
theorem dX7_narrowsOne_10 : decode cX7_narrowsOne 10 = .ok (.iaload, 1) := by decide +kernel
theorem dX7_narrowsOne_11 : decode cX7_narrowsOne 11 = .ok (.istore_n 3, 1) := by decide +kernel
theorem dX7_narrowsOne_12 : decode cX7_narrowsOne 12 = .ok (.iload_n 3, 1) := by decide +kernel
theorem dX7_narrowsOne_13 : decode cX7_narrowsOne 13 = .ok (.ifCond .ne 5, 3) := by decide +kernel
theorem dX7_narrowsOne_16 : decode cX7_narrowsOne 16 = .ok (.iconst 0, 1) := by decide +kernel
theorem dX7_narrowsOne_17 : decode cX7_narrowsOne 17 = .ok (.ireturn, 1) := by decide +kernel
theorem dX7_narrowsOne_18 : decode cX7_narrowsOne 18 = .ok (.iconst 0, 1) := by decide +kernel
theorem dX7_narrowsOne_19 : decode cX7_narrowsOne 19 = .ok (.istore 4, 2) := by decide +kernel
theorem dX7_narrowsOne_21 : decode cX7_narrowsOne 21 = .ok (.iconst 0, 1) := by decide +kernel
theorem dX7_narrowsOne_22 : decode cX7_narrowsOne 22 = .ok (.istore 5, 2) := by decide +kernel
theorem dX7_narrowsOne_24 : decode cX7_narrowsOne 24 = .ok (.iconst 0, 1) := by decide +kernel
theorem dX7_narrowsOne_25 : decode cX7_narrowsOne 25 = .ok (.istore 6, 2) := by decide +kernel
theorem dX7_narrowsOne_27 : decode cX7_narrowsOne 27 = .ok (.iload 6, 2) := by decide +kernel
theorem dX7_narrowsOne_29 : decode cX7_narrowsOne 29 = .ok (.bipush 10, 2) := by decide +kernel
theorem dX7_narrowsOne_31 : decode cX7_narrowsOne 31 = .ok (.if_icmp .ge 93, 3) := by decide +kernel
theorem dX7_narrowsOne_34 : decode cX7_narrowsOne 34 = .ok (.iload 6, 2) := by decide +kernel
theorem dX7_narrowsOne_36 : decode cX7_narrowsOne 36 = .ok (.iload_n 2, 1) := by decide +kernel
theorem dX7_narrowsOne_37 : decode cX7_narrowsOne 37 = .ok (.if_icmp .ne 7, 3) := by decide +kernel
theorem dX7_narrowsOne_40 : decode cX7_narrowsOne 40 = .ok (.iconst 0, 1) := by decide +kernel
theorem dX7_narrowsOne_41 : decode cX7_narrowsOne 41 = .ok (.goto 15, 3) := by decide +kernel
theorem dX7_narrowsOne_44 : decode cX7_narrowsOne 44 = .ok (.aload_n 0, 1) := by decide +kernel
theorem dX7_narrowsOne_45 : decode cX7_narrowsOne 45 = .ok (.getfield 25, 3) := by decide +kernel
theorem dX7_narrowsOne_48 : decode cX7_narrowsOne 48 = .ok (.bipush 10, 2) := by decide +kernel
theorem dX7_narrowsOne_50 : decode cX7_narrowsOne 50 = .ok (.iload_n 1, 1) := by decide +kernel
theorem dX7_narrowsOne_51 : decode cX7_narrowsOne 51 = .ok (.imul, 1) := by decide +kernel
theorem dX7_narrowsOne_52 : decode cX7_narrowsOne 52 = .ok (.iload 6, 2) := by decide +kernel
theorem dX7_narrowsOne_54 : decode cX7_narrowsOne 54 = .ok (.iadd, 1) := by decide +kernel
theorem dX7_narrowsOne_55 : decode cX7_narrowsOne 55 = .ok (.iaload, 1) := by decide +kernel
theorem dX7_narrowsOne_56 : decode cX7_narrowsOne 56 = .ok (.istore 7, 2) := by decide +kernel
theorem dX7_narrowsOne_58 : decode cX7_narrowsOne 58 = .ok (.iload 4, 2) := by decide +kernel
theorem dX7_narrowsOne_60 : decode cX7_narrowsOne 60 = .ok (.iload 7, 2) := by decide +kernel
theorem dX7_narrowsOne_62 : decode cX7_narrowsOne 62 = .ok (.iload 7, 2) := by decide +kernel
theorem dX7_narrowsOne_64 : decode cX7_narrowsOne 64 = .ok (.ifCond .le 13, 3) := by decide +kernel
theorem dX7_narrowsOne_67 : decode cX7_narrowsOne 67 = .ok (.aload_n 0, 1) := by decide +kernel
theorem dX7_narrowsOne_68 : decode cX7_narrowsOne 68 = .ok (.getfield 74, 3) := by decide +kernel
theorem dX7_narrowsOne_71 : decode cX7_narrowsOne 71 = .ok (.iload 6, 2) := by decide +kernel
theorem dX7_narrowsOne_73 : decode cX7_narrowsOne 73 = .ok (.iaload, 1) := by decide +kernel
theorem dX7_narrowsOne_74 : decode cX7_narrowsOne 74 = .ok (.goto 10, 3) := by decide +kernel
theorem dX7_narrowsOne_77 : decode cX7_narrowsOne 77 = .ok (.aload_n 0, 1) := by decide +kernel
theorem dX7_narrowsOne_78 : decode cX7_narrowsOne 78 = .ok (.getfield 71, 3) := by decide +kernel
theorem dX7_narrowsOne_81 : decode cX7_narrowsOne 81 = .ok (.iload 6, 2) := by decide +kernel
theorem dX7_narrowsOne_83 : decode cX7_narrowsOne 83 = .ok (.iaload, 1) := by decide +kernel
theorem dX7_narrowsOne_84 : decode cX7_narrowsOne 84 = .ok (.imul, 1) := by decide +kernel
theorem dX7_narrowsOne_85 : decode cX7_narrowsOne 85 = .ok (.iadd, 1) := by decide +kernel
theorem dX7_narrowsOne_86 : decode cX7_narrowsOne 86 = .ok (.istore 4, 2) := by decide +kernel
theorem dX7_narrowsOne_88 : decode cX7_narrowsOne 88 = .ok (.iload 5, 2) := by decide +kernel
theorem dX7_narrowsOne_90 : decode cX7_narrowsOne 90 = .ok (.iload 7, 2) := by decide +kernel
theorem dX7_narrowsOne_92 : decode cX7_narrowsOne 92 = .ok (.iload 7, 2) := by decide +kernel
theorem dX7_narrowsOne_94 : decode cX7_narrowsOne 94 = .ok (.ifCond .le 13, 3) := by decide +kernel
theorem dX7_narrowsOne_97 : decode cX7_narrowsOne 97 = .ok (.aload_n 0, 1) := by decide +kernel
theorem dX7_narrowsOne_98 : decode cX7_narrowsOne 98 = .ok (.getfield 71, 3) := by decide +kernel
theorem dX7_narrowsOne_101 : decode cX7_narrowsOne 101 = .ok (.iload 6, 2) := by decide +kernel
theorem dX7_narrowsOne_103 : decode cX7_narrowsOne 103 = .ok (.iaload, 1) := by decide +kernel
theorem dX7_narrowsOne_104 : decode cX7_narrowsOne 104 = .ok (.goto 10, 3) := by decide +kernel
theorem dX7_narrowsOne_107 : decode cX7_narrowsOne 107 = .ok (.aload_n 0, 1) := by decide +kernel
theorem dX7_narrowsOne_108 : decode cX7_narrowsOne 108 = .ok (.getfield 74, 3) := by decide +kernel
theorem dX7_narrowsOne_111 : decode cX7_narrowsOne 111 = .ok (.iload 6, 2) := by decide +kernel
theorem dX7_narrowsOne_113 : decode cX7_narrowsOne 113 = .ok (.iaload, 1) := by decide +kernel
theorem dX7_narrowsOne_114 : decode cX7_narrowsOne 114 = .ok (.imul, 1) := by decide +kernel
theorem dX7_narrowsOne_115 : decode cX7_narrowsOne 115 = .ok (.iadd, 1) := by decide +kernel
theorem dX7_narrowsOne_116 : decode cX7_narrowsOne 116 = .ok (.istore 5, 2) := by decide +kernel
theorem dX7_narrowsOne_118 : decode cX7_narrowsOne 118 = .ok (.iinc 6 1, 3) := by decide +kernel
theorem dX7_narrowsOne_121 : decode cX7_narrowsOne 121 = .ok (.goto (-94), 3) := by decide +kernel
theorem dX7_narrowsOne_124 : decode cX7_narrowsOne 124 = .ok (.aload_n 0, 1) := by decide +kernel
theorem dX7_narrowsOne_125 : decode cX7_narrowsOne 125 = .ok (.getfield 28, 3) := by decide +kernel
theorem dX7_narrowsOne_128 : decode cX7_narrowsOne 128 = .ok (.iload_n 1, 1) := by decide +kernel
theorem dX7_narrowsOne_129 : decode cX7_narrowsOne 129 = .ok (.iaload, 1) := by decide +kernel
theorem dX7_narrowsOne_130 : decode cX7_narrowsOne 130 = .ok (.iload 4, 2) := by decide +kernel
theorem dX7_narrowsOne_132 : decode cX7_narrowsOne 132 = .ok (.isub, 1) := by decide +kernel
theorem dX7_narrowsOne_133 : decode cX7_narrowsOne 133 = .ok (.istore 6, 2) := by decide +kernel
theorem dX7_narrowsOne_135 : decode cX7_narrowsOne 135 = .ok (.aload_n 0, 1) := by decide +kernel
theorem dX7_narrowsOne_136 : decode cX7_narrowsOne 136 = .ok (.getfield 28, 3) := by decide +kernel
theorem dX7_narrowsOne_139 : decode cX7_narrowsOne 139 = .ok (.iload_n 1, 1) := by decide +kernel
theorem dX7_narrowsOne_140 : decode cX7_narrowsOne 140 = .ok (.iaload, 1) := by decide +kernel
theorem dX7_narrowsOne_141 : decode cX7_narrowsOne 141 = .ok (.iload 5, 2) := by decide +kernel
theorem dX7_narrowsOne_143 : decode cX7_narrowsOne 143 = .ok (.isub, 1) := by decide +kernel
theorem dX7_narrowsOne_144 : decode cX7_narrowsOne 144 = .ok (.istore 7, 2) := by decide +kernel
theorem dX7_narrowsOne_146 : decode cX7_narrowsOne 146 = .ok (.iload_n 3, 1) := by decide +kernel
theorem dX7_narrowsOne_147 : decode cX7_narrowsOne 147 = .ok (.ifCond .le 12, 3) := by decide +kernel
theorem dX7_narrowsOne_150 : decode cX7_narrowsOne 150 = .ok (.iload 6, 2) := by decide +kernel
theorem dX7_narrowsOne_152 : decode cX7_narrowsOne 152 = .ok (.iload_n 3, 1) := by decide +kernel
theorem dX7_narrowsOne_153 : decode cX7_narrowsOne 153 = .ok (.invokestatic 326, 3) := by decide +kernel
theorem dX7_narrowsOne_156 : decode cX7_narrowsOne 156 = .ok (.goto 11, 3) := by decide +kernel
theorem dX7_narrowsOne_159 : decode cX7_narrowsOne 159 = .ok (.iload 7, 2) := by decide +kernel
theorem dX7_narrowsOne_161 : decode cX7_narrowsOne 161 = .ok (.ineg, 1) := by decide +kernel
theorem dX7_narrowsOne_162 : decode cX7_narrowsOne 162 = .ok (.iload_n 3, 1) := by decide +kernel
theorem dX7_narrowsOne_163 : decode cX7_narrowsOne 163 = .ok (.ineg, 1) := by decide +kernel
theorem dX7_narrowsOne_164 : decode cX7_narrowsOne 164 = .ok (.invokestatic 326, 3) := by decide +kernel
theorem dX7_narrowsOne_167 : decode cX7_narrowsOne 167 = .ok (.istore 8, 2) := by decide +kernel
theorem dX7_narrowsOne_169 : decode cX7_narrowsOne 169 = .ok (.iload_n 3, 1) := by decide +kernel
theorem dX7_narrowsOne_170 : decode cX7_narrowsOne 170 = .ok (.ifCond .le 12, 3) := by decide +kernel
theorem dX7_narrowsOne_173 : decode cX7_narrowsOne 173 = .ok (.iload 7, 2) := by decide +kernel
theorem dX7_narrowsOne_175 : decode cX7_narrowsOne 175 = .ok (.iload_n 3, 1) := by decide +kernel
theorem dX7_narrowsOne_176 : decode cX7_narrowsOne 176 = .ok (.invokestatic 323, 3) := by decide +kernel
theorem dX7_narrowsOne_179 : decode cX7_narrowsOne 179 = .ok (.goto 11, 3) := by decide +kernel
theorem dX7_narrowsOne_182 : decode cX7_narrowsOne 182 = .ok (.iload 6, 2) := by decide +kernel
theorem dX7_narrowsOne_184 : decode cX7_narrowsOne 184 = .ok (.ineg, 1) := by decide +kernel
theorem dX7_narrowsOne_185 : decode cX7_narrowsOne 185 = .ok (.iload_n 3, 1) := by decide +kernel
theorem dX7_narrowsOne_186 : decode cX7_narrowsOne 186 = .ok (.ineg, 1) := by decide +kernel
theorem dX7_narrowsOne_187 : decode cX7_narrowsOne 187 = .ok (.invokestatic 323, 3) := by decide +kernel
theorem dX7_narrowsOne_190 : decode cX7_narrowsOne 190 = .ok (.istore 9, 2) := by decide +kernel
theorem dX7_narrowsOne_192 : decode cX7_narrowsOne 192 = .ok (.iload 8, 2) := by decide +kernel
theorem dX7_narrowsOne_194 : decode cX7_narrowsOne 194 = .ok (.aload_n 0, 1) := by decide +kernel
theorem dX7_narrowsOne_195 : decode cX7_narrowsOne 195 = .ok (.getfield 71, 3) := by decide +kernel
theorem dX7_narrowsOne_198 : decode cX7_narrowsOne 198 = .ok (.iload_n 2, 1) := by decide +kernel
theorem dX7_narrowsOne_199 : decode cX7_narrowsOne 199 = .ok (.iaload, 1) := by decide +kernel
theorem dX7_narrowsOne_200 : decode cX7_narrowsOne 200 = .ok (.if_icmp .gt 14, 3) := by decide +kernel
theorem dX7_narrowsOne_203 : decode cX7_narrowsOne 203 = .ok (.iload 9, 2) := by decide +kernel
theorem dX7_narrowsOne_205 : decode cX7_narrowsOne 205 = .ok (.aload_n 0, 1) := by decide +kernel
theorem dX7_narrowsOne_206 : decode cX7_narrowsOne 206 = .ok (.getfield 74, 3) := by decide +kernel
theorem dX7_narrowsOne_209 : decode cX7_narrowsOne 209 = .ok (.iload_n 2, 1) := by decide +kernel
theorem dX7_narrowsOne_210 : decode cX7_narrowsOne 210 = .ok (.iaload, 1) := by decide +kernel
theorem dX7_narrowsOne_211 : decode cX7_narrowsOne 211 = .ok (.if_icmp .ge 7, 3) := by decide +kernel
theorem dX7_narrowsOne_214 : decode cX7_narrowsOne 214 = .ok (.iconst 1, 1) := by decide +kernel
theorem dX7_narrowsOne_215 : decode cX7_narrowsOne 215 = .ok (.goto 4, 3) := by decide +kernel
theorem dX7_narrowsOne_218 : decode cX7_narrowsOne 218 = .ok (.iconst 0, 1) := by decide +kernel
theorem dX7_narrowsOne_219 : decode cX7_narrowsOne 219 = .ok (.istore 10, 2) := by decide +kernel
theorem dX7_narrowsOne_221 : decode cX7_narrowsOne 221 = .ok (.aload_n 0, 1) := by decide +kernel
theorem dX7_narrowsOne_222 : decode cX7_narrowsOne 222 = .ok (.getfield 71, 3) := by decide +kernel
theorem dX7_narrowsOne_225 : decode cX7_narrowsOne 225 = .ok (.iload_n 2, 1) := by decide +kernel
theorem dX7_narrowsOne_226 : decode cX7_narrowsOne 226 = .ok (.iload 8, 2) := by decide +kernel
theorem dX7_narrowsOne_228 : decode cX7_narrowsOne 228 = .ok (.aload_n 0, 1) := by decide +kernel
theorem dX7_narrowsOne_229 : decode cX7_narrowsOne 229 = .ok (.getfield 71, 3) := by decide +kernel
theorem dX7_narrowsOne_232 : decode cX7_narrowsOne 232 = .ok (.iload_n 2, 1) := by decide +kernel
theorem dX7_narrowsOne_233 : decode cX7_narrowsOne 233 = .ok (.iaload, 1) := by decide +kernel
theorem dX7_narrowsOne_234 : decode cX7_narrowsOne 234 = .ok (.if_icmp .le 8, 3) := by decide +kernel
theorem dX7_narrowsOne_237 : decode cX7_narrowsOne 237 = .ok (.iload 8, 2) := by decide +kernel
theorem dX7_narrowsOne_239 : decode cX7_narrowsOne 239 = .ok (.goto 9, 3) := by decide +kernel
theorem dX7_narrowsOne_242 : decode cX7_narrowsOne 242 = .ok (.aload_n 0, 1) := by decide +kernel
theorem dX7_narrowsOne_243 : decode cX7_narrowsOne 243 = .ok (.getfield 71, 3) := by decide +kernel
theorem dX7_narrowsOne_246 : decode cX7_narrowsOne 246 = .ok (.iload_n 2, 1) := by decide +kernel
theorem dX7_narrowsOne_247 : decode cX7_narrowsOne 247 = .ok (.iaload, 1) := by decide +kernel
theorem dX7_narrowsOne_248 : decode cX7_narrowsOne 248 = .ok (.iastore, 1) := by decide +kernel
theorem dX7_narrowsOne_249 : decode cX7_narrowsOne 249 = .ok (.aload_n 0, 1) := by decide +kernel
theorem dX7_narrowsOne_250 : decode cX7_narrowsOne 250 = .ok (.getfield 74, 3) := by decide +kernel
theorem dX7_narrowsOne_253 : decode cX7_narrowsOne 253 = .ok (.iload_n 2, 1) := by decide +kernel
theorem dX7_narrowsOne_254 : decode cX7_narrowsOne 254 = .ok (.iload 9, 2) := by decide +kernel
theorem dX7_narrowsOne_256 : decode cX7_narrowsOne 256 = .ok (.aload_n 0, 1) := by decide +kernel
theorem dX7_narrowsOne_257 : decode cX7_narrowsOne 257 = .ok (.getfield 74, 3) := by decide +kernel
theorem dX7_narrowsOne_260 : decode cX7_narrowsOne 260 = .ok (.iload_n 2, 1) := by decide +kernel
theorem dX7_narrowsOne_261 : decode cX7_narrowsOne 261 = .ok (.iaload, 1) := by decide +kernel
theorem dX7_narrowsOne_262 : decode cX7_narrowsOne 262 = .ok (.if_icmp .ge 8, 3) := by decide +kernel
theorem dX7_narrowsOne_265 : decode cX7_narrowsOne 265 = .ok (.iload 9, 2) := by decide +kernel
theorem dX7_narrowsOne_267 : decode cX7_narrowsOne 267 = .ok (.goto 9, 3) := by decide +kernel
theorem dX7_narrowsOne_270 : decode cX7_narrowsOne 270 = .ok (.aload_n 0, 1) := by decide +kernel
theorem dX7_narrowsOne_271 : decode cX7_narrowsOne 271 = .ok (.getfield 74, 3) := by decide +kernel
theorem dX7_narrowsOne_274 : decode cX7_narrowsOne 274 = .ok (.iload_n 2, 1) := by decide +kernel
theorem dX7_narrowsOne_275 : decode cX7_narrowsOne 275 = .ok (.iaload, 1) := by decide +kernel
theorem dX7_narrowsOne_276 : decode cX7_narrowsOne 276 = .ok (.iastore, 1) := by decide +kernel
theorem dX7_narrowsOne_277 : decode cX7_narrowsOne 277 = .ok (.iload 10, 2) := by decide +kernel
theorem dX7_narrowsOne_279 : decode cX7_narrowsOne 279 = .ok (.ireturn, 1) := by decide +kernel
theorem dX7_narrows_0 : decode cX7_narrows 0 = .ok (.iconst 0, 1) := by decide +kernel
theorem dX7_narrows_1 : decode cX7_narrows 1 = .ok (.istore_n 1, 1) := by decide +kernel
theorem dX7_narrows_2 : decode cX7_narrows 2 = .ok (.iload_n 1, 1) := by decide +kernel
theorem dX7_narrows_3 : decode cX7_narrows 3 = .ok (.bipush 10, 2) := by decide +kernel
theorem dX7_narrows_5 : decode cX7_narrows 5 = .ok (.if_icmp .ge 33, 3) := by decide +kernel
theorem dX7_narrows_8 : decode cX7_narrows 8 = .ok (.aload_n 0, 1) := by decide +kernel
theorem dX7_narrows_9 : decode cX7_narrows 9 = .ok (.getfield 71, 3) := by decide +kernel
theorem dX7_narrows_12 : decode cX7_narrows 12 = .ok (.iload_n 1, 1) := by decide +kernel
theorem dX7_narrows_13 : decode cX7_narrows 13 = .ok (.aload_n 0, 1) := by decide +kernel
theorem dX7_narrows_14 : decode cX7_narrows 14 = .ok (.getfield 16, 3) := by decide +kernel
theorem dX7_narrows_17 : decode cX7_narrows 17 = .ok (.iload_n 1, 1) := by decide +kernel
theorem dX7_narrows_18 : decode cX7_narrows 18 = .ok (.iaload, 1) := by decide +kernel
theorem dX7_narrows_19 : decode cX7_narrows 19 = .ok (.iastore, 1) := by decide +kernel
theorem dX7_narrows_20 : decode cX7_narrows 20 = .ok (.aload_n 0, 1) := by decide +kernel
theorem dX7_narrows_21 : decode cX7_narrows 21 = .ok (.getfield 74, 3) := by decide +kernel
theorem dX7_narrows_24 : decode cX7_narrows 24 = .ok (.iload_n 1, 1) := by decide +kernel
theorem dX7_narrows_25 : decode cX7_narrows 25 = .ok (.aload_n 0, 1) := by decide +kernel
theorem dX7_narrows_26 : decode cX7_narrows 26 = .ok (.getfield 19, 3) := by decide +kernel
theorem dX7_narrows_29 : decode cX7_narrows 29 = .ok (.iload_n 1, 1) := by decide +kernel
theorem dX7_narrows_30 : decode cX7_narrows 30 = .ok (.iaload, 1) := by decide +kernel
theorem dX7_narrows_31 : decode cX7_narrows 31 = .ok (.iastore, 1) := by decide +kernel
theorem dX7_narrows_32 : decode cX7_narrows 32 = .ok (.iinc 1 1, 3) := by decide +kernel
theorem dX7_narrows_35 : decode cX7_narrows 35 = .ok (.goto (-33), 3) := by decide +kernel
theorem dX7_narrows_38 : decode cX7_narrows 38 = .ok (.iconst 1, 1) := by decide +kernel
theorem dX7_narrows_39 : decode cX7_narrows 39 = .ok (.istore_n 1, 1) := by decide +kernel
theorem dX7_narrows_40 : decode cX7_narrows 40 = .ok (.iconst 0, 1) := by decide +kernel
theorem dX7_narrows_41 : decode cX7_narrows 41 = .ok (.istore_n 2, 1) := by decide +kernel
theorem dX7_narrows_42 : decode cX7_narrows 42 = .ok (.iload_n 2, 1) := by decide +kernel
theorem dX7_narrows_43 : decode cX7_narrows 43 = .ok (.bipush 60, 2) := by decide +kernel
theorem dX7_narrows_45 : decode cX7_narrows 45 = .ok (.if_icmp .ge 57, 3) := by decide +kernel
theorem dX7_narrows_48 : decode cX7_narrows 48 = .ok (.iload_n 1, 1) := by decide +kernel
theorem dX7_narrows_49 : decode cX7_narrows 49 = .ok (.ifCond .eq 53, 3) := by decide +kernel
theorem dX7_narrows_52 : decode cX7_narrows 52 = .ok (.iconst 0, 1) := by decide +kernel
theorem dX7_narrows_53 : decode cX7_narrows 53 = .ok (.istore_n 1, 1) := by decide +kernel
theorem dX7_narrows_54 : decode cX7_narrows 54 = .ok (.iconst 0, 1) := by decide +kernel
theorem dX7_narrows_55 : decode cX7_narrows 55 = .ok (.istore_n 3, 1) := by decide +kernel
theorem dX7_narrows_56 : decode cX7_narrows 56 = .ok (.iload_n 3, 1) := by decide +kernel
theorem dX7_narrows_57 : decode cX7_narrows 57 = .ok (.aload_n 0, 1) := by decide +kernel
theorem dX7_narrows_58 : decode cX7_narrows 58 = .ok (.getfield 100, 3) := by decide +kernel
theorem dX7_narrows_61 : decode cX7_narrows 61 = .ok (.if_icmp .ge 35, 3) := by decide +kernel
theorem dX7_narrows_64 : decode cX7_narrows 64 = .ok (.iconst 0, 1) := by decide +kernel
theorem dX7_narrows_65 : decode cX7_narrows 65 = .ok (.istore 4, 2) := by decide +kernel
theorem dX7_narrows_67 : decode cX7_narrows 67 = .ok (.iload 4, 2) := by decide +kernel
theorem dX7_narrows_69 : decode cX7_narrows 69 = .ok (.bipush 10, 2) := by decide +kernel
theorem dX7_narrows_71 : decode cX7_narrows 71 = .ok (.if_icmp .ge 19, 3) := by decide +kernel
theorem dX7_narrows_74 : decode cX7_narrows 74 = .ok (.iload_n 1, 1) := by decide +kernel
theorem dX7_narrows_75 : decode cX7_narrows 75 = .ok (.aload_n 0, 1) := by decide +kernel
theorem dX7_narrows_76 : decode cX7_narrows 76 = .ok (.iload_n 3, 1) := by decide +kernel
theorem dX7_narrows_77 : decode cX7_narrows 77 = .ok (.iload 4, 2) := by decide +kernel
theorem dX7_narrows_79 : decode cX7_narrows 79 = .ok (.invokevirtual 329, 3) := by decide +kernel
theorem dX7_narrows_82 : decode cX7_narrows 82 = .ok (.ior, 1) := by decide +kernel
theorem dX7_narrows_83 : decode cX7_narrows 83 = .ok (.istore_n 1, 1) := by decide +kernel
theorem dX7_narrows_84 : decode cX7_narrows 84 = .ok (.iinc 4 1, 3) := by decide +kernel
theorem dX7_narrows_87 : decode cX7_narrows 87 = .ok (.goto (-20), 3) := by decide +kernel
theorem dX7_narrows_90 : decode cX7_narrows 90 = .ok (.iinc 3 1, 3) := by decide +kernel
theorem dX7_narrows_93 : decode cX7_narrows 93 = .ok (.goto (-37), 3) := by decide +kernel
theorem dX7_narrows_96 : decode cX7_narrows 96 = .ok (.iinc 2 1, 3) := by decide +kernel
theorem dX7_narrows_99 : decode cX7_narrows 99 = .ok (.goto (-57), 3) := by decide +kernel
theorem dX7_narrows_102 : decode cX7_narrows 102 = .ok (.return_, 1) := by decide +kernel
theorem dX7_width_0 : decode cX7_width 0 = .ok (.aload_n 0, 1) := by decide +kernel
theorem dX7_width_1 : decode cX7_width 1 = .ok (.getfield 74, 3) := by decide +kernel
theorem dX7_width_4 : decode cX7_width 4 = .ok (.iload_n 1, 1) := by decide +kernel
theorem dX7_width_5 : decode cX7_width 5 = .ok (.iaload, 1) := by decide +kernel
theorem dX7_width_6 : decode cX7_width 6 = .ok (.aload_n 0, 1) := by decide +kernel
theorem dX7_width_7 : decode cX7_width 7 = .ok (.getfield 71, 3) := by decide +kernel
theorem dX7_width_10 : decode cX7_width 10 = .ok (.iload_n 1, 1) := by decide +kernel
theorem dX7_width_11 : decode cX7_width 11 = .ok (.iaload, 1) := by decide +kernel
theorem dX7_width_12 : decode cX7_width 12 = .ok (.isub, 1) := by decide +kernel
theorem dX7_width_13 : decode cX7_width 13 = .ok (.iconst 1, 1) := by decide +kernel
theorem dX7_width_14 : decode cX7_width 14 = .ok (.iadd, 1) := by decide +kernel
theorem dX7_width_15 : decode cX7_width 15 = .ok (.ireturn, 1) := by decide +kernel
theorem dX7_variable_0 : decode cX7_variable 0 = .ok (.aload_n 0, 1) := by decide +kernel
theorem dX7_variable_1 : decode cX7_variable 1 = .ok (.iload_n 1, 1) := by decide +kernel
theorem dX7_variable_2 : decode cX7_variable 2 = .ok (.invokevirtual 257, 3) := by decide +kernel
theorem dX7_variable_5 : decode cX7_variable 5 = .ok (.ifCond .ne 9, 3) := by decide +kernel
theorem dX7_variable_8 : decode cX7_variable 8 = .ok (.aload_n 0, 1) := by decide +kernel
theorem dX7_variable_9 : decode cX7_variable 9 = .ok (.iconst (-1), 1) := by decide +kernel
theorem dX7_variable_10 : decode cX7_variable 10 = .ok (.invokevirtual 213, 3) := by decide +kernel
theorem dX7_variable_13 : decode cX7_variable 13 = .ok (.ireturn, 1) := by decide +kernel
theorem dX7_variable_14 : decode cX7_variable 14 = .ok (.aload_n 0, 1) := by decide +kernel
theorem dX7_variable_15 : decode cX7_variable 15 = .ok (.invokevirtual 332, 3) := by decide +kernel
theorem dX7_variable_18 : decode cX7_variable 18 = .ok (.iload_n 2, 1) := by decide +kernel
theorem dX7_variable_19 : decode cX7_variable 19 = .ok (.tableswitch 96 0 6 #[41, 48, 55, 62, 69, 76, 82], 41) := by decide +kernel
theorem dX7_variable_60 : decode cX7_variable 60 = .ok (.aload_n 0, 1) := by decide +kernel
theorem dX7_variable_61 : decode cX7_variable 61 = .ok (.getfield 13, 3) := by decide +kernel
theorem dX7_variable_64 : decode cX7_variable 64 = .ok (.iload_n 1, 1) := by decide +kernel
theorem dX7_variable_65 : decode cX7_variable 65 = .ok (.iaload, 1) := by decide +kernel
theorem dX7_variable_66 : decode cX7_variable 66 = .ok (.ireturn, 1) := by decide +kernel
theorem dX7_variable_67 : decode cX7_variable 67 = .ok (.aload_n 0, 1) := by decide +kernel
theorem dX7_variable_68 : decode cX7_variable 68 = .ok (.getfield 16, 3) := by decide +kernel
theorem dX7_variable_71 : decode cX7_variable 71 = .ok (.iload_n 1, 1) := by decide +kernel
theorem dX7_variable_72 : decode cX7_variable 72 = .ok (.iaload, 1) := by decide +kernel
theorem dX7_variable_73 : decode cX7_variable 73 = .ok (.ireturn, 1) := by decide +kernel
theorem dX7_variable_74 : decode cX7_variable 74 = .ok (.aload_n 0, 1) := by decide +kernel
theorem dX7_variable_75 : decode cX7_variable 75 = .ok (.getfield 19, 3) := by decide +kernel
theorem dX7_variable_78 : decode cX7_variable 78 = .ok (.iload_n 1, 1) := by decide +kernel
theorem dX7_variable_79 : decode cX7_variable 79 = .ok (.iaload, 1) := by decide +kernel
theorem dX7_variable_80 : decode cX7_variable 80 = .ok (.ireturn, 1) := by decide +kernel
theorem dX7_variable_81 : decode cX7_variable 81 = .ok (.aload_n 0, 1) := by decide +kernel
theorem dX7_variable_82 : decode cX7_variable 82 = .ok (.getfield 71, 3) := by decide +kernel
theorem dX7_variable_85 : decode cX7_variable 85 = .ok (.iload_n 1, 1) := by decide +kernel
theorem dX7_variable_86 : decode cX7_variable 86 = .ok (.iaload, 1) := by decide +kernel
theorem dX7_variable_87 : decode cX7_variable 87 = .ok (.ireturn, 1) := by decide +kernel
theorem dX7_variable_88 : decode cX7_variable 88 = .ok (.aload_n 0, 1) := by decide +kernel
theorem dX7_variable_89 : decode cX7_variable 89 = .ok (.getfield 74, 3) := by decide +kernel
theorem dX7_variable_92 : decode cX7_variable 92 = .ok (.iload_n 1, 1) := by decide +kernel
theorem dX7_variable_93 : decode cX7_variable 93 = .ok (.iaload, 1) := by decide +kernel
theorem dX7_variable_94 : decode cX7_variable 94 = .ok (.ireturn, 1) := by decide +kernel
theorem dX7_variable_95 : decode cX7_variable 95 = .ok (.aload_n 0, 1) := by decide +kernel
theorem dX7_variable_96 : decode cX7_variable 96 = .ok (.iload_n 1, 1) := by decide +kernel
theorem dX7_variable_97 : decode cX7_variable 97 = .ok (.invokevirtual 335, 3) := by decide +kernel
theorem dX7_variable_100 : decode cX7_variable 100 = .ok (.ireturn, 1) := by decide +kernel
theorem dX7_variable_101 : decode cX7_variable 101 = .ok (.aload_n 0, 1) := by decide +kernel
theorem dX7_variable_102 : decode cX7_variable 102 = .ok (.iload_n 1, 1) := by decide +kernel
theorem dX7_variable_103 : decode cX7_variable 103 = .ok (.invokevirtual 247, 3) := by decide +kernel
theorem dX7_variable_106 : decode cX7_variable 106 = .ok (.ifCond .eq 7, 3) := by decide +kernel
theorem dX7_variable_109 : decode cX7_variable 109 = .ok (.iconst 1, 1) := by decide +kernel
theorem dX7_variable_110 : decode cX7_variable 110 = .ok (.goto 4, 3) := by decide +kernel
theorem dX7_variable_113 : decode cX7_variable 113 = .ok (.iconst 0, 1) := by decide +kernel
theorem dX7_variable_114 : decode cX7_variable 114 = .ok (.ireturn, 1) := by decide +kernel
theorem dX7_variable_115 : decode cX7_variable 115 = .ok (.aload_n 0, 1) := by decide +kernel
theorem dX7_variable_116 : decode cX7_variable 116 = .ok (.bipush (-2), 2) := by decide +kernel
theorem dX7_variable_118 : decode cX7_variable 118 = .ok (.invokevirtual 213, 3) := by decide +kernel
theorem dX7_variable_121 : decode cX7_variable 121 = .ok (.ireturn, 1) := by decide +kernel
theorem dX7_knownNow_0 : decode cX7_knownNow 0 = .ok (.iconst 0, 1) := by decide +kernel
theorem dX7_knownNow_1 : decode cX7_knownNow 1 = .ok (.istore_n 1, 1) := by decide +kernel
theorem dX7_knownNow_2 : decode cX7_knownNow 2 = .ok (.iconst 0, 1) := by decide +kernel
theorem dX7_knownNow_3 : decode cX7_knownNow 3 = .ok (.istore_n 2, 1) := by decide +kernel
theorem dX7_knownNow_4 : decode cX7_knownNow 4 = .ok (.iload_n 2, 1) := by decide +kernel
theorem dX7_knownNow_5 : decode cX7_knownNow 5 = .ok (.aload_n 0, 1) := by decide +kernel
theorem dX7_knownNow_6 : decode cX7_knownNow 6 = .ok (.getfield 86, 3) := by decide +kernel
theorem dX7_knownNow_9 : decode cX7_knownNow 9 = .ok (.if_icmp .ge 28, 3) := by decide +kernel
theorem dX7_knownNow_12 : decode cX7_knownNow 12 = .ok (.iload_n 1, 1) := by decide +kernel
theorem dX7_knownNow_13 : decode cX7_knownNow 13 = .ok (.aload_n 0, 1) := by decide +kernel
theorem dX7_knownNow_14 : decode cX7_knownNow 14 = .ok (.iload_n 2, 1) := by decide +kernel
theorem dX7_knownNow_15 : decode cX7_knownNow 15 = .ok (.invokevirtual 335, 3) := by decide +kernel
theorem dX7_knownNow_18 : decode cX7_knownNow 18 = .ok (.iconst 1, 1) := by decide +kernel
theorem dX7_knownNow_19 : decode cX7_knownNow 19 = .ok (.if_icmp .ne 9, 3) := by decide +kernel
theorem dX7_knownNow_22 : decode cX7_knownNow 22 = .ok (.iconst 1, 1) := by decide +kernel
theorem dX7_knownNow_23 : decode cX7_knownNow 23 = .ok (.iload_n 2, 1) := by decide +kernel
theorem dX7_knownNow_24 : decode cX7_knownNow 24 = .ok (.ishl, 1) := by decide +kernel
theorem dX7_knownNow_25 : decode cX7_knownNow 25 = .ok (.goto 4, 3) := by decide +kernel
theorem dX7_knownNow_28 : decode cX7_knownNow 28 = .ok (.iconst 0, 1) := by decide +kernel
theorem dX7_knownNow_29 : decode cX7_knownNow 29 = .ok (.ior, 1) := by decide +kernel
theorem dX7_knownNow_30 : decode cX7_knownNow 30 = .ok (.istore_n 1, 1) := by decide +kernel
theorem dX7_knownNow_31 : decode cX7_knownNow 31 = .ok (.iinc 2 1, 3) := by decide +kernel
theorem dX7_knownNow_34 : decode cX7_knownNow 34 = .ok (.goto (-30), 3) := by decide +kernel
theorem dX7_knownNow_37 : decode cX7_knownNow 37 = .ok (.iload_n 1, 1) := by decide +kernel
theorem dX7_knownNow_38 : decode cX7_knownNow 38 = .ok (.ireturn, 1) := by decide +kernel
theorem dX7_known_0 : decode cX7_known 0 = .ok (.aload_n 0, 1) := by decide +kernel
theorem dX7_known_1 : decode cX7_known 1 = .ok (.invokevirtual 332, 3) := by decide +kernel
theorem dX7_known_4 : decode cX7_known 4 = .ok (.aload_n 0, 1) := by decide +kernel
theorem dX7_known_5 : decode cX7_known 5 = .ok (.invokevirtual 338, 3) := by decide +kernel
theorem dX7_known_8 : decode cX7_known 8 = .ok (.ireturn, 1) := by decide +kernel
theorem dX7_narrowest_0 : decode cX7_narrowest 0 = .ok (.iconst 0, 1) := by decide +kernel
theorem dX7_narrowest_1 : decode cX7_narrowest 1 = .ok (.istore_n 1, 1) := by decide +kernel
theorem dX7_narrowest_2 : decode cX7_narrowest 2 = .ok (.iconst 1, 1) := by decide +kernel
theorem dX7_narrowest_3 : decode cX7_narrowest 3 = .ok (.istore_n 2, 1) := by decide +kernel
theorem dX7_narrowest_4 : decode cX7_narrowest 4 = .ok (.iload_n 2, 1) := by decide +kernel
theorem dX7_narrowest_5 : decode cX7_narrowest 5 = .ok (.aload_n 0, 1) := by decide +kernel
theorem dX7_narrowest_6 : decode cX7_narrowest 6 = .ok (.getfield 86, 3) := by decide +kernel
theorem dX7_narrowest_9 : decode cX7_narrowest 9 = .ok (.if_icmp .ge 28, 3) := by decide +kernel
theorem dX7_narrowest_12 : decode cX7_narrowest 12 = .ok (.aload_n 0, 1) := by decide +kernel
theorem dX7_narrowest_13 : decode cX7_narrowest 13 = .ok (.iload_n 2, 1) := by decide +kernel
theorem dX7_narrowest_14 : decode cX7_narrowest 14 = .ok (.invokevirtual 335, 3) := by decide +kernel
theorem dX7_narrowest_17 : decode cX7_narrowest 17 = .ok (.aload_n 0, 1) := by decide +kernel
theorem dX7_narrowest_18 : decode cX7_narrowest 18 = .ok (.iload_n 1, 1) := by decide +kernel
theorem dX7_narrowest_19 : decode cX7_narrowest 19 = .ok (.invokevirtual 335, 3) := by decide +kernel
theorem dX7_narrowest_22 : decode cX7_narrowest 22 = .ok (.if_icmp .ge 7, 3) := by decide +kernel
theorem dX7_narrowest_25 : decode cX7_narrowest 25 = .ok (.iload_n 2, 1) := by decide +kernel
theorem dX7_narrowest_26 : decode cX7_narrowest 26 = .ok (.goto 4, 3) := by decide +kernel
theorem dX7_narrowest_29 : decode cX7_narrowest 29 = .ok (.iload_n 1, 1) := by decide +kernel
theorem dX7_narrowest_30 : decode cX7_narrowest 30 = .ok (.istore_n 1, 1) := by decide +kernel
theorem dX7_narrowest_31 : decode cX7_narrowest 31 = .ok (.iinc 2 1, 3) := by decide +kernel
theorem dX7_narrowest_34 : decode cX7_narrowest 34 = .ok (.goto (-30), 3) := by decide +kernel
theorem dX7_narrowest_37 : decode cX7_narrowest 37 = .ok (.iload_n 1, 1) := by decide +kernel
theorem dX7_narrowest_38 : decode cX7_narrowest 38 = .ok (.ireturn, 1) := by decide +kernel
theorem dX7_learns_0 : decode cX7_learns 0 = .ok (.iload_n 1, 1) := by decide +kernel
theorem dX7_learns_1 : decode cX7_learns 1 = .ok (.iload_n 2, 1) := by decide +kernel
theorem dX7_learns_2 : decode cX7_learns 2 = .ok (.iload_n 3, 1) := by decide +kernel
theorem dX7_learns_3 : decode cX7_learns 3 = .ok (.invokestatic 263, 3) := by decide +kernel
theorem dX7_learns_6 : decode cX7_learns 6 = .ok (.istore 5, 2) := by decide +kernel
theorem dX7_learns_8 : decode cX7_learns 8 = .ok (.iload 5, 2) := by decide +kernel
theorem dX7_learns_10 : decode cX7_learns 10 = .ok (.ifCond .ne 17, 3) := by decide +kernel
theorem dX7_learns_13 : decode cX7_learns 13 = .ok (.iload 4, 2) := by decide +kernel
theorem dX7_learns_15 : decode cX7_learns 15 = .ok (.iconst 0, 1) := by decide +kernel
theorem dX7_learns_16 : decode cX7_learns 16 = .ok (.iconst 2, 1) := by decide +kernel
theorem dX7_learns_17 : decode cX7_learns 17 = .ok (.invokestatic 96, 3) := by decide +kernel
theorem dX7_learns_20 : decode cX7_learns 20 = .ok (.ifCond .ne 7, 3) := by decide +kernel
theorem dX7_learns_23 : decode cX7_learns 23 = .ok (.bipush (-2), 2) := by decide +kernel
theorem dX7_learns_25 : decode cX7_learns 25 = .ok (.istore 5, 2) := by decide +kernel
theorem dX7_learns_27 : decode cX7_learns 27 = .ok (.iload 5, 2) := by decide +kernel
theorem dX7_learns_29 : decode cX7_learns 29 = .ok (.ifCond .eq 10, 3) := by decide +kernel
theorem dX7_learns_32 : decode cX7_learns 32 = .ok (.aload_n 0, 1) := by decide +kernel
theorem dX7_learns_33 : decode cX7_learns 33 = .ok (.iload 5, 2) := by decide +kernel
theorem dX7_learns_35 : decode cX7_learns 35 = .ok (.invokevirtual 213, 3) := by decide +kernel
theorem dX7_learns_38 : decode cX7_learns 38 = .ok (.ireturn, 1) := by decide +kernel
theorem dX7_learns_39 : decode cX7_learns 39 = .ok (.aload_n 0, 1) := by decide +kernel
theorem dX7_learns_40 : decode cX7_learns 40 = .ok (.invokevirtual 341, 3) := by decide +kernel
theorem dX7_learns_43 : decode cX7_learns 43 = .ok (.aload_n 0, 1) := by decide +kernel
theorem dX7_learns_44 : decode cX7_learns 44 = .ok (.iload_n 1, 1) := by decide +kernel
theorem dX7_learns_45 : decode cX7_learns 45 = .ok (.iload_n 2, 1) := by decide +kernel
theorem dX7_learns_46 : decode cX7_learns 46 = .ok (.iload_n 3, 1) := by decide +kernel
theorem dX7_learns_47 : decode cX7_learns 47 = .ok (.invokevirtual 266, 3) := by decide +kernel
theorem dX7_learns_50 : decode cX7_learns 50 = .ok (.aload_n 0, 1) := by decide +kernel
theorem dX7_learns_51 : decode cX7_learns 51 = .ok (.invokevirtual 186, 3) := by decide +kernel
theorem dX7_learns_54 : decode cX7_learns 54 = .ok (.ifCond .eq 7, 3) := by decide +kernel
theorem dX7_learns_57 : decode cX7_learns 57 = .ok (.aload_n 0, 1) := by decide +kernel
theorem dX7_learns_58 : decode cX7_learns 58 = .ok (.invokevirtual 189, 3) := by decide +kernel
theorem dX7_learns_61 : decode cX7_learns 61 = .ok (.aload_n 0, 1) := by decide +kernel
theorem dX7_learns_62 : decode cX7_learns 62 = .ok (.invokevirtual 332, 3) := by decide +kernel
theorem dX7_learns_65 : decode cX7_learns 65 = .ok (.aload_n 0, 1) := by decide +kernel
theorem dX7_learns_66 : decode cX7_learns 66 = .ok (.invokevirtual 344, 3) := by decide +kernel
theorem dX7_learns_69 : decode cX7_learns 69 = .ok (.istore 6, 2) := by decide +kernel
theorem dX7_learns_71 : decode cX7_learns 71 = .ok (.iload 4, 2) := by decide +kernel
theorem dX7_learns_73 : decode cX7_learns 73 = .ok (.ifCond .ne 12, 3) := by decide +kernel
theorem dX7_learns_76 : decode cX7_learns 76 = .ok (.aload_n 0, 1) := by decide +kernel
theorem dX7_learns_77 : decode cX7_learns 77 = .ok (.iload 6, 2) := by decide +kernel
theorem dX7_learns_79 : decode cX7_learns 79 = .ok (.invokevirtual 335, 3) := by decide +kernel
theorem dX7_learns_82 : decode cX7_learns 82 = .ok (.goto 21, 3) := by decide +kernel
theorem dX7_learns_85 : decode cX7_learns 85 = .ok (.iload 4, 2) := by decide +kernel
theorem dX7_learns_87 : decode cX7_learns 87 = .ok (.iconst 1, 1) := by decide +kernel
theorem dX7_learns_88 : decode cX7_learns 88 = .ok (.if_icmp .ne 8, 3) := by decide +kernel
theorem dX7_learns_91 : decode cX7_learns 91 = .ok (.iload 6, 2) := by decide +kernel
theorem dX7_learns_93 : decode cX7_learns 93 = .ok (.goto 10, 3) := by decide +kernel
theorem dX7_learns_96 : decode cX7_learns 96 = .ok (.aload_n 0, 1) := by decide +kernel
theorem dX7_learns_97 : decode cX7_learns 97 = .ok (.invokevirtual 338, 3) := by decide +kernel
theorem dX7_learns_100 : decode cX7_learns 100 = .ok (.invokestatic 303, 3) := by decide +kernel
theorem dX7_learns_103 : decode cX7_learns 103 = .ok (.istore 7, 2) := by decide +kernel
theorem dX7_learns_105 : decode cX7_learns 105 = .ok (.aload_n 0, 1) := by decide +kernel
theorem dX7_learns_106 : decode cX7_learns 106 = .ok (.invokevirtual 347, 3) := by decide +kernel
theorem dX7_learns_109 : decode cX7_learns 109 = .ok (.iload 7, 2) := by decide +kernel
theorem dX7_learns_111 : decode cX7_learns 111 = .ok (.ireturn, 1) := by decide +kernel
theorem dX7_asksSum_0 : decode cX7_asksSum 0 = .ok (.aload_n 0, 1) := by decide +kernel
theorem dX7_asksSum_1 : decode cX7_asksSum 1 = .ok (.iconst 0, 1) := by decide +kernel
theorem dX7_asksSum_2 : decode cX7_asksSum 2 = .ok (.iload_n 1, 1) := by decide +kernel
theorem dX7_asksSum_3 : decode cX7_asksSum 3 = .ok (.iconst 0, 1) := by decide +kernel
theorem dX7_asksSum_4 : decode cX7_asksSum 4 = .ok (.invokevirtual 266, 3) := by decide +kernel
theorem dX7_asksSum_7 : decode cX7_asksSum 7 = .ok (.aload_n 0, 1) := by decide +kernel
theorem dX7_asksSum_8 : decode cX7_asksSum 8 = .ok (.invokevirtual 270, 3) := by decide +kernel
theorem dX7_asksSum_11 : decode cX7_asksSum 11 = .ok (.ireturn, 1) := by decide +kernel
theorem dX7_joinsIn_0 : decode cX7_joinsIn 0 = .ok (.aload_n 0, 1) := by decide +kernel
theorem dX7_joinsIn_1 : decode cX7_joinsIn 1 = .ok (.invokevirtual 341, 3) := by decide +kernel
theorem dX7_joinsIn_4 : decode cX7_joinsIn 4 = .ok (.aload_n 0, 1) := by decide +kernel
theorem dX7_joinsIn_5 : decode cX7_joinsIn 5 = .ok (.aload_n 0, 1) := by decide +kernel
theorem dX7_joinsIn_6 : decode cX7_joinsIn 6 = .ok (.getfield 77, 3) := by decide +kernel
theorem dX7_joinsIn_9 : decode cX7_joinsIn 9 = .ok (.iload_n 1, 1) := by decide +kernel
theorem dX7_joinsIn_10 : decode cX7_joinsIn 10 = .ok (.bipush 100, 2) := by decide +kernel
theorem dX7_joinsIn_12 : decode cX7_joinsIn 12 = .ok (.idiv, 1) := by decide +kernel
theorem dX7_joinsIn_13 : decode cX7_joinsIn 13 = .ok (.iaload, 1) := by decide +kernel
theorem dX7_joinsIn_14 : decode cX7_joinsIn 14 = .ok (.invokevirtual 350, 3) := by decide +kernel
theorem dX7_joinsIn_17 : decode cX7_joinsIn 17 = .ok (.iconst 1, 1) := by decide +kernel
theorem dX7_joinsIn_18 : decode cX7_joinsIn 18 = .ok (.if_icmp .ne 7, 3) := by decide +kernel
theorem dX7_joinsIn_21 : decode cX7_joinsIn 21 = .ok (.iconst 1, 1) := by decide +kernel
theorem dX7_joinsIn_22 : decode cX7_joinsIn 22 = .ok (.goto 4, 3) := by decide +kernel
theorem dX7_joinsIn_25 : decode cX7_joinsIn 25 = .ok (.iconst 0, 1) := by decide +kernel
theorem dX7_joinsIn_26 : decode cX7_joinsIn 26 = .ok (.istore_n 2, 1) := by decide +kernel
theorem dX7_joinsIn_27 : decode cX7_joinsIn 27 = .ok (.iload_n 2, 1) := by decide +kernel
theorem dX7_joinsIn_28 : decode cX7_joinsIn 28 = .ok (.aload_n 0, 1) := by decide +kernel
theorem dX7_joinsIn_29 : decode cX7_joinsIn 29 = .ok (.aload_n 0, 1) := by decide +kernel
theorem dX7_joinsIn_30 : decode cX7_joinsIn 30 = .ok (.getfield 77, 3) := by decide +kernel
theorem dX7_joinsIn_33 : decode cX7_joinsIn 33 = .ok (.iload_n 1, 1) := by decide +kernel
theorem dX7_joinsIn_34 : decode cX7_joinsIn 34 = .ok (.bipush 10, 2) := by decide +kernel
theorem dX7_joinsIn_36 : decode cX7_joinsIn 36 = .ok (.idiv, 1) := by decide +kernel
theorem dX7_joinsIn_37 : decode cX7_joinsIn 37 = .ok (.bipush 10, 2) := by decide +kernel
theorem dX7_joinsIn_39 : decode cX7_joinsIn 39 = .ok (.irem, 1) := by decide +kernel
theorem dX7_joinsIn_40 : decode cX7_joinsIn 40 = .ok (.iaload, 1) := by decide +kernel
theorem dX7_joinsIn_41 : decode cX7_joinsIn 41 = .ok (.invokevirtual 350, 3) := by decide +kernel
theorem dX7_joinsIn_44 : decode cX7_joinsIn 44 = .ok (.iconst 1, 1) := by decide +kernel
theorem dX7_joinsIn_45 : decode cX7_joinsIn 45 = .ok (.if_icmp .ne 7, 3) := by decide +kernel
theorem dX7_joinsIn_48 : decode cX7_joinsIn 48 = .ok (.iconst 1, 1) := by decide +kernel
theorem dX7_joinsIn_49 : decode cX7_joinsIn 49 = .ok (.goto 4, 3) := by decide +kernel
theorem dX7_joinsIn_52 : decode cX7_joinsIn 52 = .ok (.iconst 0, 1) := by decide +kernel
theorem dX7_joinsIn_53 : decode cX7_joinsIn 53 = .ok (.iadd, 1) := by decide +kernel
theorem dX7_joinsIn_54 : decode cX7_joinsIn 54 = .ok (.istore_n 2, 1) := by decide +kernel
theorem dX7_joinsIn_55 : decode cX7_joinsIn 55 = .ok (.iload_n 2, 1) := by decide +kernel
theorem dX7_joinsIn_56 : decode cX7_joinsIn 56 = .ok (.aload_n 0, 1) := by decide +kernel
theorem dX7_joinsIn_57 : decode cX7_joinsIn 57 = .ok (.aload_n 0, 1) := by decide +kernel
theorem dX7_joinsIn_58 : decode cX7_joinsIn 58 = .ok (.getfield 77, 3) := by decide +kernel
theorem dX7_joinsIn_61 : decode cX7_joinsIn 61 = .ok (.iload_n 1, 1) := by decide +kernel
theorem dX7_joinsIn_62 : decode cX7_joinsIn 62 = .ok (.bipush 10, 2) := by decide +kernel
theorem dX7_joinsIn_64 : decode cX7_joinsIn 64 = .ok (.irem, 1) := by decide +kernel
theorem dX7_joinsIn_65 : decode cX7_joinsIn 65 = .ok (.iaload, 1) := by decide +kernel
theorem dX7_joinsIn_66 : decode cX7_joinsIn 66 = .ok (.invokevirtual 350, 3) := by decide +kernel
theorem dX7_joinsIn_69 : decode cX7_joinsIn 69 = .ok (.iconst 1, 1) := by decide +kernel
theorem dX7_joinsIn_70 : decode cX7_joinsIn 70 = .ok (.if_icmp .ne 7, 3) := by decide +kernel
theorem dX7_joinsIn_73 : decode cX7_joinsIn 73 = .ok (.iconst 1, 1) := by decide +kernel
theorem dX7_joinsIn_74 : decode cX7_joinsIn 74 = .ok (.goto 4, 3) := by decide +kernel
theorem dX7_joinsIn_77 : decode cX7_joinsIn 77 = .ok (.iconst 0, 1) := by decide +kernel
theorem dX7_joinsIn_78 : decode cX7_joinsIn 78 = .ok (.iadd, 1) := by decide +kernel
theorem dX7_joinsIn_79 : decode cX7_joinsIn 79 = .ok (.istore_n 2, 1) := by decide +kernel
theorem dX7_joinsIn_80 : decode cX7_joinsIn 80 = .ok (.aload_n 0, 1) := by decide +kernel
theorem dX7_joinsIn_81 : decode cX7_joinsIn 81 = .ok (.invokevirtual 347, 3) := by decide +kernel
theorem dX7_joinsIn_84 : decode cX7_joinsIn 84 = .ok (.iload_n 2, 1) := by decide +kernel
theorem dX7_joinsIn_85 : decode cX7_joinsIn 85 = .ok (.ireturn, 1) := by decide +kernel
theorem dX7_isOrder_0 : decode cX7_isOrder 0 = .ok (.iload_n 0, 1) := by decide +kernel
theorem dX7_isOrder_1 : decode cX7_isOrder 1 = .ok (.bipush 100, 2) := by decide +kernel
theorem dX7_isOrder_3 : decode cX7_isOrder 3 = .ok (.idiv, 1) := by decide +kernel
theorem dX7_isOrder_4 : decode cX7_isOrder 4 = .ok (.iconst 3, 1) := by decide +kernel
theorem dX7_isOrder_5 : decode cX7_isOrder 5 = .ok (.if_icmp .ge 54, 3) := by decide +kernel
theorem dX7_isOrder_8 : decode cX7_isOrder 8 = .ok (.iload_n 0, 1) := by decide +kernel
theorem dX7_isOrder_9 : decode cX7_isOrder 9 = .ok (.bipush 10, 2) := by decide +kernel
theorem dX7_isOrder_11 : decode cX7_isOrder 11 = .ok (.idiv, 1) := by decide +kernel
theorem dX7_isOrder_12 : decode cX7_isOrder 12 = .ok (.bipush 10, 2) := by decide +kernel
theorem dX7_isOrder_14 : decode cX7_isOrder 14 = .ok (.irem, 1) := by decide +kernel
theorem dX7_isOrder_15 : decode cX7_isOrder 15 = .ok (.iconst 3, 1) := by decide +kernel
theorem dX7_isOrder_16 : decode cX7_isOrder 16 = .ok (.if_icmp .ge 43, 3) := by decide +kernel
theorem dX7_isOrder_19 : decode cX7_isOrder 19 = .ok (.iload_n 0, 1) := by decide +kernel
theorem dX7_isOrder_20 : decode cX7_isOrder 20 = .ok (.bipush 10, 2) := by decide +kernel
theorem dX7_isOrder_22 : decode cX7_isOrder 22 = .ok (.irem, 1) := by decide +kernel
theorem dX7_isOrder_23 : decode cX7_isOrder 23 = .ok (.iconst 3, 1) := by decide +kernel
theorem dX7_isOrder_24 : decode cX7_isOrder 24 = .ok (.if_icmp .ge 35, 3) := by decide +kernel
theorem dX7_isOrder_27 : decode cX7_isOrder 27 = .ok (.iconst 1, 1) := by decide +kernel
theorem dX7_isOrder_28 : decode cX7_isOrder 28 = .ok (.iload_n 0, 1) := by decide +kernel
theorem dX7_isOrder_29 : decode cX7_isOrder 29 = .ok (.bipush 100, 2) := by decide +kernel
theorem dX7_isOrder_31 : decode cX7_isOrder 31 = .ok (.idiv, 1) := by decide +kernel
theorem dX7_isOrder_32 : decode cX7_isOrder 32 = .ok (.ishl, 1) := by decide +kernel
theorem dX7_isOrder_33 : decode cX7_isOrder 33 = .ok (.iconst 1, 1) := by decide +kernel
theorem dX7_isOrder_34 : decode cX7_isOrder 34 = .ok (.iload_n 0, 1) := by decide +kernel
theorem dX7_isOrder_35 : decode cX7_isOrder 35 = .ok (.bipush 10, 2) := by decide +kernel
theorem dX7_isOrder_37 : decode cX7_isOrder 37 = .ok (.idiv, 1) := by decide +kernel
theorem dX7_isOrder_38 : decode cX7_isOrder 38 = .ok (.bipush 10, 2) := by decide +kernel
theorem dX7_isOrder_40 : decode cX7_isOrder 40 = .ok (.irem, 1) := by decide +kernel
theorem dX7_isOrder_41 : decode cX7_isOrder 41 = .ok (.ishl, 1) := by decide +kernel
theorem dX7_isOrder_42 : decode cX7_isOrder 42 = .ok (.ior, 1) := by decide +kernel
theorem dX7_isOrder_43 : decode cX7_isOrder 43 = .ok (.iconst 1, 1) := by decide +kernel
theorem dX7_isOrder_44 : decode cX7_isOrder 44 = .ok (.iload_n 0, 1) := by decide +kernel
theorem dX7_isOrder_45 : decode cX7_isOrder 45 = .ok (.bipush 10, 2) := by decide +kernel
theorem dX7_isOrder_47 : decode cX7_isOrder 47 = .ok (.irem, 1) := by decide +kernel
theorem dX7_isOrder_48 : decode cX7_isOrder 48 = .ok (.ishl, 1) := by decide +kernel
theorem dX7_isOrder_49 : decode cX7_isOrder 49 = .ok (.ior, 1) := by decide +kernel
theorem dX7_isOrder_50 : decode cX7_isOrder 50 = .ok (.bipush 7, 2) := by decide +kernel
theorem dX7_isOrder_52 : decode cX7_isOrder 52 = .ok (.if_icmp .ne 7, 3) := by decide +kernel
theorem dX7_isOrder_55 : decode cX7_isOrder 55 = .ok (.iconst 1, 1) := by decide +kernel
theorem dX7_isOrder_56 : decode cX7_isOrder 56 = .ok (.goto 4, 3) := by decide +kernel
theorem dX7_isOrder_59 : decode cX7_isOrder 59 = .ok (.iconst 0, 1) := by decide +kernel
theorem dX7_isOrder_60 : decode cX7_isOrder 60 = .ok (.ireturn, 1) := by decide +kernel
theorem dX7_order_0 : decode cX7_order 0 = .ok (.iload_n 1, 1) := by decide +kernel
theorem dX7_order_1 : decode cX7_order 1 = .ok (.iconst 1, 1) := by decide +kernel
theorem dX7_order_2 : decode cX7_order 2 = .ok (.if_icmp .lt 13, 3) := by decide +kernel
theorem dX7_order_5 : decode cX7_order 5 = .ok (.iload_n 2, 1) := by decide +kernel
theorem dX7_order_6 : decode cX7_order 6 = .ok (.iconst 1, 1) := by decide +kernel
theorem dX7_order_7 : decode cX7_order 7 = .ok (.if_icmp .lt 8, 3) := by decide +kernel
theorem dX7_order_10 : decode cX7_order 10 = .ok (.iload_n 3, 1) := by decide +kernel
theorem dX7_order_11 : decode cX7_order 11 = .ok (.iconst 1, 1) := by decide +kernel
theorem dX7_order_12 : decode cX7_order 12 = .ok (.if_icmp .ge 8, 3) := by decide +kernel
theorem dX7_order_15 : decode cX7_order 15 = .ok (.bipush (-4), 2) := by decide +kernel
theorem dX7_order_17 : decode cX7_order 17 = .ok (.goto 45, 3) := by decide +kernel
theorem dX7_order_20 : decode cX7_order 20 = .ok (.iload_n 1, 1) := by decide +kernel
theorem dX7_order_21 : decode cX7_order 21 = .ok (.sipush 255, 3) := by decide +kernel
theorem dX7_order_24 : decode cX7_order 24 = .ok (.if_icmp .gt 17, 3) := by decide +kernel
theorem dX7_order_27 : decode cX7_order 27 = .ok (.iload_n 2, 1) := by decide +kernel
theorem dX7_order_28 : decode cX7_order 28 = .ok (.sipush 255, 3) := by decide +kernel
theorem dX7_order_31 : decode cX7_order 31 = .ok (.if_icmp .gt 10, 3) := by decide +kernel
theorem dX7_order_34 : decode cX7_order 34 = .ok (.iload_n 3, 1) := by decide +kernel
theorem dX7_order_35 : decode cX7_order 35 = .ok (.sipush 255, 3) := by decide +kernel
theorem dX7_order_38 : decode cX7_order 38 = .ok (.if_icmp .le 8, 3) := by decide +kernel
theorem dX7_order_41 : decode cX7_order 41 = .ok (.bipush (-6), 2) := by decide +kernel
theorem dX7_order_43 : decode cX7_order 43 = .ok (.goto 19, 3) := by decide +kernel
theorem dX7_order_46 : decode cX7_order 46 = .ok (.iload 4, 2) := by decide +kernel
theorem dX7_order_48 : decode cX7_order 48 = .ok (.iconst 0, 1) := by decide +kernel
theorem dX7_order_49 : decode cX7_order 49 = .ok (.iconst 1, 1) := by decide +kernel
theorem dX7_order_50 : decode cX7_order 50 = .ok (.invokestatic 96, 3) := by decide +kernel
theorem dX7_order_53 : decode cX7_order 53 = .ok (.ifCond .ne 8, 3) := by decide +kernel
theorem dX7_order_56 : decode cX7_order 56 = .ok (.bipush (-2), 2) := by decide +kernel
theorem dX7_order_58 : decode cX7_order 58 = .ok (.goto 4, 3) := by decide +kernel
theorem dX7_order_61 : decode cX7_order 61 = .ok (.iconst 0, 1) := by decide +kernel
theorem dX7_order_62 : decode cX7_order 62 = .ok (.istore 5, 2) := by decide +kernel
theorem dX7_order_64 : decode cX7_order 64 = .ok (.iload 5, 2) := by decide +kernel
theorem dX7_order_66 : decode cX7_order 66 = .ok (.ifCond .eq 10, 3) := by decide +kernel
theorem dX7_order_69 : decode cX7_order 69 = .ok (.aload_n 0, 1) := by decide +kernel
theorem dX7_order_70 : decode cX7_order 70 = .ok (.iload 5, 2) := by decide +kernel
theorem dX7_order_72 : decode cX7_order 72 = .ok (.invokevirtual 213, 3) := by decide +kernel
theorem dX7_order_75 : decode cX7_order 75 = .ok (.ireturn, 1) := by decide +kernel
theorem dX7_order_76 : decode cX7_order 76 = .ok (.aload_n 0, 1) := by decide +kernel
theorem dX7_order_77 : decode cX7_order 77 = .ok (.getfield 77, 3) := by decide +kernel
theorem dX7_order_80 : decode cX7_order 80 = .ok (.iconst 0, 1) := by decide +kernel
theorem dX7_order_81 : decode cX7_order 81 = .ok (.iload_n 1, 1) := by decide +kernel
theorem dX7_order_82 : decode cX7_order 82 = .ok (.iastore, 1) := by decide +kernel
theorem dX7_order_83 : decode cX7_order 83 = .ok (.aload_n 0, 1) := by decide +kernel
theorem dX7_order_84 : decode cX7_order 84 = .ok (.getfield 77, 3) := by decide +kernel
theorem dX7_order_87 : decode cX7_order 87 = .ok (.iconst 1, 1) := by decide +kernel
theorem dX7_order_88 : decode cX7_order 88 = .ok (.iload_n 2, 1) := by decide +kernel
theorem dX7_order_89 : decode cX7_order 89 = .ok (.iastore, 1) := by decide +kernel
theorem dX7_order_90 : decode cX7_order 90 = .ok (.aload_n 0, 1) := by decide +kernel
theorem dX7_order_91 : decode cX7_order 91 = .ok (.getfield 77, 3) := by decide +kernel
theorem dX7_order_94 : decode cX7_order 94 = .ok (.iconst 2, 1) := by decide +kernel
theorem dX7_order_95 : decode cX7_order 95 = .ok (.iload_n 3, 1) := by decide +kernel
theorem dX7_order_96 : decode cX7_order 96 = .ok (.iastore, 1) := by decide +kernel
