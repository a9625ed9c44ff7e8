theorem dX6_count_96 : decode cX6_count 96 = .ok (.aload_n 0, 1) := by decide +kernel
theorem dX6_count_97 : decode cX6_count 97 = .ok (.getfield 45, 3) := by decide +kernel
theorem dX6_count_100 : decode cX6_count 100 = .ok (.getfield 257, 3) := by decide +kernel
theorem dX6_count_103 : decode cX6_count 103 = .ok (.ireturn, 1) := by decide +kernel
theorem dX6_count_104 : decode cX6_count 104 = .ok (.aload_n 0, 1) := by decide +kernel
theorem dX6_count_105 : decode cX6_count 105 = .ok (.getfield 41, 3) := by decide +kernel
theorem dX6_count_108 : decode cX6_count 108 = .ok (.getfield 257, 3) := by decide +kernel
theorem dX6_count_111 : decode cX6_count 111 = .ok (.ireturn, 1) := by decide +kernel
theorem dX6_count_112 : decode cX6_count 112 = .ok (.iload_n 1, 1) := by decide +kernel
theorem dX6_count_113 : decode cX6_count 113 = .ok (.bipush 11, 2) := by decide +kernel
theorem dX6_count_115 : decode cX6_count 115 = .ok (.isub, 1) := by decide +kernel
theorem dX6_count_116 : decode cX6_count 116 = .ok (.bipush 6, 2) := by decide +kernel
theorem dX6_count_118 : decode cX6_count 118 = .ok (.invokestatic 69, 3) := by decide +kernel
theorem dX6_count_121 : decode cX6_count 121 = .ok (.ifCond .eq 15, 3) := by decide +kernel
theorem dX6_count_124 : decode cX6_count 124 = .ok (.aload_n 0, 1) := by decide +kernel
theorem dX6_count_125 : decode cX6_count 125 = .ok (.getfield 48, 3) := by decide +kernel
theorem dX6_count_128 : decode cX6_count 128 = .ok (.iload_n 1, 1) := by decide +kernel
theorem dX6_count_129 : decode cX6_count 129 = .ok (.bipush 11, 2) := by decide +kernel
theorem dX6_count_131 : decode cX6_count 131 = .ok (.isub, 1) := by decide +kernel
theorem dX6_count_132 : decode cX6_count 132 = .ok (.iaload, 1) := by decide +kernel
theorem dX6_count_133 : decode cX6_count 133 = .ok (.goto 5, 3) := by decide +kernel
theorem dX6_count_136 : decode cX6_count 136 = .ok (.bipush (-9), 2) := by decide +kernel
theorem dX6_count_138 : decode cX6_count 138 = .ok (.ireturn, 1) := by decide +kernel
theorem dX6_refuse_0 : decode cX6_refuse 0 = .ok (.iconst (-1), 1) := by decide +kernel
theorem dX6_refuse_1 : decode cX6_refuse 1 = .ok (.iload_n 1, 1) := by decide +kernel
theorem dX6_refuse_2 : decode cX6_refuse 2 = .ok (.isub, 1) := by decide +kernel
theorem dX6_refuse_3 : decode cX6_refuse 3 = .ok (.istore_n 2, 1) := by decide +kernel
theorem dX6_refuse_4 : decode cX6_refuse 4 = .ok (.iload_n 2, 1) := by decide +kernel
theorem dX6_refuse_5 : decode cX6_refuse 5 = .ok (.bipush 6, 2) := by decide +kernel
theorem dX6_refuse_7 : decode cX6_refuse 7 = .ok (.invokestatic 69, 3) := by decide +kernel
theorem dX6_refuse_10 : decode cX6_refuse 10 = .ok (.ifCond .eq 13, 3) := by decide +kernel
theorem dX6_refuse_13 : decode cX6_refuse 13 = .ok (.aload_n 0, 1) := by decide +kernel
theorem dX6_refuse_14 : decode cX6_refuse 14 = .ok (.getfield 48, 3) := by decide +kernel
theorem dX6_refuse_17 : decode cX6_refuse 17 = .ok (.iload_n 2, 1) := by decide +kernel
theorem dX6_refuse_18 : decode cX6_refuse 18 = .ok (.dup2, 1) := by decide +kernel
theorem dX6_refuse_19 : decode cX6_refuse 19 = .ok (.iaload, 1) := by decide +kernel
theorem dX6_refuse_20 : decode cX6_refuse 20 = .ok (.iconst 1, 1) := by decide +kernel
theorem dX6_refuse_21 : decode cX6_refuse 21 = .ok (.iadd, 1) := by decide +kernel
theorem dX6_refuse_22 : decode cX6_refuse 22 = .ok (.iastore, 1) := by decide +kernel
theorem dX6_refuse_23 : decode cX6_refuse 23 = .ok (.iload_n 1, 1) := by decide +kernel
theorem dX6_refuse_24 : decode cX6_refuse 24 = .ok (.ireturn, 1) := by decide +kernel
theorem dX6_append_0 : decode cX6_append 0 = .ok (.iload_n 2, 1) := by decide +kernel
theorem dX6_append_1 : decode cX6_append 1 = .ok (.iconst 0, 1) := by decide +kernel
theorem dX6_append_2 : decode cX6_append 2 = .ok (.sipush 255, 3) := by decide +kernel
theorem dX6_append_5 : decode cX6_append 5 = .ok (.invokestatic 125, 3) := by decide +kernel
theorem dX6_append_8 : decode cX6_append 8 = .ok (.istore_n 3, 1) := by decide +kernel
theorem dX6_append_9 : decode cX6_append 9 = .ok (.iload_n 3, 1) := by decide +kernel
theorem dX6_append_10 : decode cX6_append 10 = .ok (.ifCond .eq 9, 3) := by decide +kernel
theorem dX6_append_13 : decode cX6_append 13 = .ok (.aload_n 0, 1) := by decide +kernel
theorem dX6_append_14 : decode cX6_append 14 = .ok (.iload_n 3, 1) := by decide +kernel
theorem dX6_append_15 : decode cX6_append 15 = .ok (.invokevirtual 73, 3) := by decide +kernel
theorem dX6_append_18 : decode cX6_append 18 = .ok (.ireturn, 1) := by decide +kernel
theorem dX6_append_19 : decode cX6_append 19 = .ok (.aload_n 1, 1) := by decide +kernel
theorem dX6_append_20 : decode cX6_append 20 = .ok (.iload_n 2, 1) := by decide +kernel
theorem dX6_append_21 : decode cX6_append 21 = .ok (.invokevirtual 284, 3) := by decide +kernel
theorem dX6_append_24 : decode cX6_append 24 = .ok (.ifCond .eq 10, 3) := by decide +kernel
theorem dX6_append_27 : decode cX6_append 27 = .ok (.aload_n 1, 1) := by decide +kernel
theorem dX6_append_28 : decode cX6_append 28 = .ok (.getfield 257, 3) := by decide +kernel
theorem dX6_append_31 : decode cX6_append 31 = .ok (.goto 9, 3) := by decide +kernel
theorem dX6_append_34 : decode cX6_append 34 = .ok (.aload_n 0, 1) := by decide +kernel
theorem dX6_append_35 : decode cX6_append 35 = .ok (.bipush (-6), 2) := by decide +kernel
theorem dX6_append_37 : decode cX6_append 37 = .ok (.invokevirtual 73, 3) := by decide +kernel
theorem dX6_append_40 : decode cX6_append 40 = .ok (.ireturn, 1) := by decide +kernel
theorem dX6_misfitOfAll_0 : decode cX6_misfitOfAll 0 = .ok (.iload_n 0, 1) := by decide +kernel
theorem dX6_misfitOfAll_1 : decode cX6_misfitOfAll 1 = .ok (.iconst 1, 1) := by decide +kernel
theorem dX6_misfitOfAll_2 : decode cX6_misfitOfAll 2 = .ok (.if_icmp .ge 8, 3) := by decide +kernel
theorem dX6_misfitOfAll_5 : decode cX6_misfitOfAll 5 = .ok (.bipush (-4), 2) := by decide +kernel
theorem dX6_misfitOfAll_7 : decode cX6_misfitOfAll 7 = .ok (.goto 16, 3) := by decide +kernel
theorem dX6_misfitOfAll_10 : decode cX6_misfitOfAll 10 = .ok (.iload_n 1, 1) := by decide +kernel
theorem dX6_misfitOfAll_11 : decode cX6_misfitOfAll 11 = .ok (.sipush 255, 3) := by decide +kernel
theorem dX6_misfitOfAll_14 : decode cX6_misfitOfAll 14 = .ok (.if_icmp .le 8, 3) := by decide +kernel
theorem dX6_misfitOfAll_17 : decode cX6_misfitOfAll 17 = .ok (.bipush (-6), 2) := by decide +kernel
theorem dX6_misfitOfAll_19 : decode cX6_misfitOfAll 19 = .ok (.goto 4, 3) := by decide +kernel
theorem dX6_misfitOfAll_22 : decode cX6_misfitOfAll 22 = .ok (.iconst 0, 1) := by decide +kernel
theorem dX6_misfitOfAll_23 : decode cX6_misfitOfAll 23 = .ok (.ireturn, 1) := by decide +kernel
theorem dX6_misfit_0 : decode cX6_misfit 0 = .ok (.iload_n 0, 1) := by decide +kernel
theorem dX6_misfit_1 : decode cX6_misfit 1 = .ok (.iload_n 1, 1) := by decide +kernel
theorem dX6_misfit_2 : decode cX6_misfit 2 = .ok (.if_icmp .ge 8, 3) := by decide +kernel
theorem dX6_misfit_5 : decode cX6_misfit 5 = .ok (.bipush (-4), 2) := by decide +kernel
theorem dX6_misfit_7 : decode cX6_misfit 7 = .ok (.goto 14, 3) := by decide +kernel
theorem dX6_misfit_10 : decode cX6_misfit 10 = .ok (.iload_n 0, 1) := by decide +kernel
theorem dX6_misfit_11 : decode cX6_misfit 11 = .ok (.iload_n 2, 1) := by decide +kernel
theorem dX6_misfit_12 : decode cX6_misfit 12 = .ok (.if_icmp .le 8, 3) := by decide +kernel
theorem dX6_misfit_15 : decode cX6_misfit 15 = .ok (.bipush (-6), 2) := by decide +kernel
theorem dX6_misfit_17 : decode cX6_misfit 17 = .ok (.goto 4, 3) := by decide +kernel
theorem dX6_misfit_20 : decode cX6_misfit 20 = .ok (.iconst 0, 1) := by decide +kernel
theorem dX6_misfit_21 : decode cX6_misfit 21 = .ok (.ireturn, 1) := by decide +kernel
theorem dX6_isWithin_0 : decode cX6_isWithin 0 = .ok (.iload_n 0, 1) := by decide +kernel
theorem dX6_isWithin_1 : decode cX6_isWithin 1 = .ok (.ifCond .lt 12, 3) := by decide +kernel
theorem dX6_isWithin_4 : decode cX6_isWithin 4 = .ok (.iload_n 0, 1) := by decide +kernel
theorem dX6_isWithin_5 : decode cX6_isWithin 5 = .ok (.iload_n 1, 1) := by decide +kernel
theorem dX6_isWithin_6 : decode cX6_isWithin 6 = .ok (.if_icmp .ge 7, 3) := by decide +kernel
theorem dX6_isWithin_9 : decode cX6_isWithin 9 = .ok (.iconst 1, 1) := by decide +kernel
theorem dX6_isWithin_10 : decode cX6_isWithin 10 = .ok (.goto 4, 3) := by decide +kernel
theorem dX6_isWithin_13 : decode cX6_isWithin 13 = .ok (.iconst 0, 1) := by decide +kernel
theorem dX6_isWithin_14 : decode cX6_isWithin 14 = .ok (.ireturn, 1) := by decide +kernel
theorem dX6_asNumber_0 : decode cX6_asNumber 0 = .ok (.iload_n 0, 1) := by decide +kernel
theorem dX6_asNumber_1 : decode cX6_asNumber 1 = .ok (.ifCond .eq 7, 3) := by decide +kernel
theorem dX6_asNumber_4 : decode cX6_asNumber 4 = .ok (.iconst 1, 1) := by decide +kernel
theorem dX6_asNumber_5 : decode cX6_asNumber 5 = .ok (.goto 4, 3) := by decide +kernel
theorem dX6_asNumber_8 : decode cX6_asNumber 8 = .ok (.iconst 0, 1) := by decide +kernel
theorem dX6_asNumber_9 : decode cX6_asNumber 9 = .ok (.ireturn, 1) := by decide +kernel
theorem dX6_partInLeastTerms_0 : decode cX6_partInLeastTerms 0 = .ok (.lload_n 0, 1) := by decide +kernel
theorem dX6_partInLeastTerms_1 : decode cX6_partInLeastTerms 1 = .ok (.invokestatic 287, 3) := by decide +kernel
theorem dX6_partInLeastTerms_4 : decode cX6_partInLeastTerms 4 = .ok (.lload_n 2, 1) := by decide +kernel
theorem dX6_partInLeastTerms_5 : decode cX6_partInLeastTerms 5 = .ok (.invokestatic 287, 3) := by decide +kernel
theorem dX6_partInLeastTerms_8 : decode cX6_partInLeastTerms 8 = .ok (.invokestatic 291, 3) := by decide +kernel
theorem dX6_partInLeastTerms_11 : decode cX6_partInLeastTerms 11 = .ok (.lstore 5, 2) := by decide +kernel
theorem dX6_partInLeastTerms_13 : decode cX6_partInLeastTerms 13 = .ok (.lload_n 0, 1) := by decide +kernel
theorem dX6_partInLeastTerms_14 : decode cX6_partInLeastTerms 14 = .ok (.lconst 0, 1) := by decide +kernel
theorem dX6_partInLeastTerms_15 : decode cX6_partInLeastTerms 15 = .ok (.lcmp, 1) := by decide +kernel
theorem dX6_partInLeastTerms_16 : decode cX6_partInLeastTerms 16 = .ok (.ifCond .eq 16, 3) := by decide +kernel
theorem dX6_partInLeastTerms_19 : decode cX6_partInLeastTerms 19 = .ok (.lload_n 2, 1) := by decide +kernel
theorem dX6_partInLeastTerms_20 : decode cX6_partInLeastTerms 20 = .ok (.lconst 0, 1) := by decide +kernel
theorem dX6_partInLeastTerms_21 : decode cX6_partInLeastTerms 21 = .ok (.lcmp, 1) := by decide +kernel
theorem dX6_partInLeastTerms_22 : decode cX6_partInLeastTerms 22 = .ok (.ifCond .eq 10, 3) := by decide +kernel
theorem dX6_partInLeastTerms_25 : decode cX6_partInLeastTerms 25 = .ok (.lload 5, 2) := by decide +kernel
theorem dX6_partInLeastTerms_27 : decode cX6_partInLeastTerms 27 = .ok (.lconst 0, 1) := by decide +kernel
theorem dX6_partInLeastTerms_28 : decode cX6_partInLeastTerms 28 = .ok (.lcmp, 1) := by decide +kernel
theorem dX6_partInLeastTerms_29 : decode cX6_partInLeastTerms 29 = .ok (.ifCond .ne 14, 3) := by decide +kernel
theorem dX6_partInLeastTerms_32 : decode cX6_partInLeastTerms 32 = .ok (.iload 4, 2) := by decide +kernel
theorem dX6_partInLeastTerms_34 : decode cX6_partInLeastTerms 34 = .ok (.ifCond .ne 7, 3) := by decide +kernel
theorem dX6_partInLeastTerms_37 : decode cX6_partInLeastTerms 37 = .ok (.lconst 0, 1) := by decide +kernel
theorem dX6_partInLeastTerms_38 : decode cX6_partInLeastTerms 38 = .ok (.goto 4, 3) := by decide +kernel
theorem dX6_partInLeastTerms_41 : decode cX6_partInLeastTerms 41 = .ok (.lconst 1, 1) := by decide +kernel
theorem dX6_partInLeastTerms_42 : decode cX6_partInLeastTerms 42 = .ok (.lreturn, 1) := by decide +kernel
theorem dX6_partInLeastTerms_43 : decode cX6_partInLeastTerms 43 = .ok (.lload_n 2, 1) := by decide +kernel
theorem dX6_partInLeastTerms_44 : decode cX6_partInLeastTerms 44 = .ok (.lconst 0, 1) := by decide +kernel
theorem dX6_partInLeastTerms_45 : decode cX6_partInLeastTerms 45 = .ok (.lcmp, 1) := by decide +kernel
theorem dX6_partInLeastTerms_46 : decode cX6_partInLeastTerms 46 = .ok (.ifCond .ge 9, 3) := by decide +kernel
theorem dX6_partInLeastTerms_49 : decode cX6_partInLeastTerms 49 = .ok (.lload 5, 2) := by decide +kernel
theorem dX6_partInLeastTerms_51 : decode cX6_partInLeastTerms 51 = .ok (.lneg, 1) := by decide +kernel
theorem dX6_partInLeastTerms_52 : decode cX6_partInLeastTerms 52 = .ok (.goto 5, 3) := by decide +kernel
theorem dX6_partInLeastTerms_55 : decode cX6_partInLeastTerms 55 = .ok (.lload 5, 2) := by decide +kernel
theorem dX6_partInLeastTerms_57 : decode cX6_partInLeastTerms 57 = .ok (.lstore 7, 2) := by decide +kernel
theorem dX6_partInLeastTerms_59 : decode cX6_partInLeastTerms 59 = .ok (.iload 4, 2) := by decide +kernel
theorem dX6_partInLeastTerms_61 : decode cX6_partInLeastTerms 61 = .ok (.ifCond .ne 7, 3) := by decide +kernel
theorem dX6_partInLeastTerms_64 : decode cX6_partInLeastTerms 64 = .ok (.lload_n 0, 1) := by decide +kernel
theorem dX6_partInLeastTerms_65 : decode cX6_partInLeastTerms 65 = .ok (.goto 4, 3) := by decide +kernel
theorem dX6_partInLeastTerms_68 : decode cX6_partInLeastTerms 68 = .ok (.lload_n 2, 1) := by decide +kernel
theorem dX6_partInLeastTerms_69 : decode cX6_partInLeastTerms 69 = .ok (.lload 7, 2) := by decide +kernel
theorem dX6_partInLeastTerms_71 : decode cX6_partInLeastTerms 71 = .ok (.ldiv, 1) := by decide +kernel
theorem dX6_partInLeastTerms_72 : decode cX6_partInLeastTerms 72 = .ok (.lreturn, 1) := by decide +kernel
theorem dX6_greatestDivisor_0 : decode cX6_greatestDivisor 0 = .ok (.lload_n 0, 1) := by decide +kernel
theorem dX6_greatestDivisor_1 : decode cX6_greatestDivisor 1 = .ok (.lstore 4, 2) := by decide +kernel
theorem dX6_greatestDivisor_3 : decode cX6_greatestDivisor 3 = .ok (.lload_n 2, 1) := by decide +kernel
theorem dX6_greatestDivisor_4 : decode cX6_greatestDivisor 4 = .ok (.lstore 6, 2) := by decide +kernel
theorem dX6_greatestDivisor_6 : decode cX6_greatestDivisor 6 = .ok (.iconst 0, 1) := by decide +kernel
theorem dX6_greatestDivisor_7 : decode cX6_greatestDivisor 7 = .ok (.istore 8, 2) := by decide +kernel
theorem dX6_greatestDivisor_9 : decode cX6_greatestDivisor 9 = .ok (.iload 8, 2) := by decide +kernel
theorem dX6_greatestDivisor_11 : decode cX6_greatestDivisor 11 = .ok (.sipush 200, 3) := by decide +kernel
theorem dX6_greatestDivisor_14 : decode cX6_greatestDivisor 14 = .ok (.if_icmp .ge 31, 3) := by decide +kernel
theorem dX6_greatestDivisor_17 : decode cX6_greatestDivisor 17 = .ok (.lload 6, 2) := by decide +kernel
theorem dX6_greatestDivisor_19 : decode cX6_greatestDivisor 19 = .ok (.lconst 0, 1) := by decide +kernel
theorem dX6_greatestDivisor_20 : decode cX6_greatestDivisor 20 = .ok (.lcmp, 1) := by decide +kernel
theorem dX6_greatestDivisor_21 : decode cX6_greatestDivisor 21 = .ok (.ifCond .eq 24, 3) := by decide +kernel
theorem dX6_greatestDivisor_24 : decode cX6_greatestDivisor 24 = .ok (.lload 4, 2) := by decide +kernel
theorem dX6_greatestDivisor_26 : decode cX6_greatestDivisor 26 = .ok (.lload 6, 2) := by decide +kernel
theorem dX6_greatestDivisor_28 : decode cX6_greatestDivisor 28 = .ok (.lrem, 1) := by decide +kernel
theorem dX6_greatestDivisor_29 : decode cX6_greatestDivisor 29 = .ok (.lstore 9, 2) := by decide +kernel
theorem dX6_greatestDivisor_31 : decode cX6_greatestDivisor 31 = .ok (.lload 6, 2) := by decide +kernel
theorem dX6_greatestDivisor_33 : decode cX6_greatestDivisor 33 = .ok (.lstore 4, 2) := by decide +kernel
theorem dX6_greatestDivisor_35 : decode cX6_greatestDivisor 35 = .ok (.lload 9, 2) := by decide +kernel
theorem dX6_greatestDivisor_37 : decode cX6_greatestDivisor 37 = .ok (.lstore 6, 2) := by decide +kernel
theorem dX6_greatestDivisor_39 : decode cX6_greatestDivisor 39 = .ok (.iinc 8 1, 3) := by decide +kernel
theorem dX6_greatestDivisor_42 : decode cX6_greatestDivisor 42 = .ok (.goto (-33), 3) := by decide +kernel
theorem dX6_greatestDivisor_45 : decode cX6_greatestDivisor 45 = .ok (.lload 4, 2) := by decide +kernel
theorem dX6_greatestDivisor_47 : decode cX6_greatestDivisor 47 = .ok (.lreturn, 1) := by decide +kernel
theorem dX7_init_0 : decode cX7_init 0 = .ok (.aload_n 0, 1) := by decide +kernel
theorem dX7_init_1 : decode cX7_init 1 = .ok (.invokespecial 1, 3) := by decide +kernel
theorem dX7_init_4 : decode cX7_init 4 = .ok (.aload_n 0, 1) := by decide +kernel
theorem dX7_init_5 : decode cX7_init 5 = .ok (.bipush 7, 2) := by decide +kernel
theorem dX7_init_7 : decode cX7_init 7 = .ok (.newarray .int, 2) := by decide +kernel
theorem dX7_init_9 : decode cX7_init 9 = .ok (.putfield 7, 3) := by decide +kernel
theorem dX7_init_12 : decode cX7_init 12 = .ok (.aload_n 0, 1) := by decide +kernel
theorem dX7_init_13 : decode cX7_init 13 = .ok (.bipush 10, 2) := by decide +kernel
theorem dX7_init_15 : decode cX7_init 15 = .ok (.newarray .int, 2) := by decide +kernel
theorem dX7_init_17 : decode cX7_init 17 = .ok (.putfield 13, 3) := by decide +kernel
theorem dX7_init_20 : decode cX7_init 20 = .ok (.aload_n 0, 1) := by decide +kernel
theorem dX7_init_21 : decode cX7_init 21 = .ok (.bipush 10, 2) := by decide +kernel
theorem dX7_init_23 : decode cX7_init 23 = .ok (.newarray .int, 2) := by decide +kernel
theorem dX7_init_25 : decode cX7_init 25 = .ok (.putfield 16, 3) := by decide +kernel
theorem dX7_init_28 : decode cX7_init 28 = .ok (.aload_n 0, 1) := by decide +kernel
theorem dX7_init_29 : decode cX7_init 29 = .ok (.bipush 10, 2) := by decide +kernel
theorem dX7_init_31 : decode cX7_init 31 = .ok (.newarray .int, 2) := by decide +kernel
theorem dX7_init_33 : decode cX7_init 33 = .ok (.putfield 19, 3) := by decide +kernel
theorem dX7_init_36 : decode cX7_init 36 = .ok (.aload_n 0, 1) := by decide +kernel
theorem dX7_init_37 : decode cX7_init 37 = .ok (.bipush 8, 2) := by decide +kernel
theorem dX7_init_39 : decode cX7_init 39 = .ok (.newarray .int, 2) := by decide +kernel
theorem dX7_init_41 : decode cX7_init 41 = .ok (.putfield 22, 3) := by decide +kernel
theorem dX7_init_44 : decode cX7_init 44 = .ok (.aload_n 0, 1) := by decide +kernel
theorem dX7_init_45 : decode cX7_init 45 = .ok (.bipush 100, 2) := by decide +kernel
theorem dX7_init_47 : decode cX7_init 47 = .ok (.newarray .int, 2) := by decide +kernel
theorem dX7_init_49 : decode cX7_init 49 = .ok (.putfield 25, 3) := by decide +kernel
theorem dX7_init_52 : decode cX7_init 52 = .ok (.aload_n 0, 1) := by decide +kernel
theorem dX7_init_53 : decode cX7_init 53 = .ok (.bipush 10, 2) := by decide +kernel
theorem dX7_init_55 : decode cX7_init 55 = .ok (.newarray .int, 2) := by decide +kernel
theorem dX7_init_57 : decode cX7_init 57 = .ok (.putfield 28, 3) := by decide +kernel
theorem dX7_init_60 : decode cX7_init 60 = .ok (.aload_n 0, 1) := by decide +kernel
theorem dX7_init_61 : decode cX7_init 61 = .ok (.bipush 10, 2) := by decide +kernel
theorem dX7_init_63 : decode cX7_init 63 = .ok (.newarray .int, 2) := by decide +kernel
theorem dX7_init_65 : decode cX7_init 65 = .ok (.putfield 31, 3) := by decide +kernel
theorem dX7_init_68 : decode cX7_init 68 = .ok (.aload_n 0, 1) := by decide +kernel
theorem dX7_init_69 : decode cX7_init 69 = .ok (.bipush 110, 2) := by decide +kernel
theorem dX7_init_71 : decode cX7_init 71 = .ok (.newarray .long, 2) := by decide +kernel
theorem dX7_init_73 : decode cX7_init 73 = .ok (.putfield 34, 3) := by decide +kernel
theorem dX7_init_76 : decode cX7_init 76 = .ok (.aload_n 0, 1) := by decide +kernel
theorem dX7_init_77 : decode cX7_init 77 = .ok (.bipush 110, 2) := by decide +kernel
theorem dX7_init_79 : decode cX7_init 79 = .ok (.newarray .long, 2) := by decide +kernel
theorem dX7_init_81 : decode cX7_init 81 = .ok (.putfield 38, 3) := by decide +kernel
theorem dX7_init_84 : decode cX7_init 84 = .ok (.aload_n 0, 1) := by decide +kernel
theorem dX7_init_85 : decode cX7_init 85 = .ok (.bipush 10, 2) := by decide +kernel
theorem dX7_init_87 : decode cX7_init 87 = .ok (.newarray .long, 2) := by decide +kernel
theorem dX7_init_89 : decode cX7_init 89 = .ok (.putfield 41, 3) := by decide +kernel
theorem dX7_init_92 : decode cX7_init 92 = .ok (.aload_n 0, 1) := by decide +kernel
theorem dX7_init_93 : decode cX7_init 93 = .ok (.bipush 11, 2) := by decide +kernel
theorem dX7_init_95 : decode cX7_init 95 = .ok (.newarray .int, 2) := by decide +kernel
theorem dX7_init_97 : decode cX7_init 97 = .ok (.putfield 44, 3) := by decide +kernel
theorem dX7_init_100 : decode cX7_init 100 = .ok (.aload_n 0, 1) := by decide +kernel
theorem dX7_init_101 : decode cX7_init 101 = .ok (.bipush 11, 2) := by decide +kernel
theorem dX7_init_103 : decode cX7_init 103 = .ok (.newarray .int, 2) := by decide +kernel
theorem dX7_init_105 : decode cX7_init 105 = .ok (.putfield 47, 3) := by decide +kernel
theorem dX7_init_108 : decode cX7_init 108 = .ok (.aload_n 0, 1) := by decide +kernel
theorem dX7_init_109 : decode cX7_init 109 = .ok (.sipush 456, 3) := by decide +kernel
theorem dX7_init_112 : decode cX7_init 112 = .ok (.newarray .int, 2) := by decide +kernel
theorem dX7_init_114 : decode cX7_init 114 = .ok (.putfield 50, 3) := by decide +kernel
theorem dX7_init_117 : decode cX7_init 117 = .ok (.aload_n 0, 1) := by decide +kernel
theorem dX7_init_118 : decode cX7_init 118 = .ok (.bipush 96, 2) := by decide +kernel
theorem dX7_init_120 : decode cX7_init 120 = .ok (.newarray .int, 2) := by decide +kernel
theorem dX7_init_122 : decode cX7_init 122 = .ok (.putfield 53, 3) := by decide +kernel
theorem dX7_init_125 : decode cX7_init 125 = .ok (.aload_n 0, 1) := by decide +kernel
theorem dX7_init_126 : decode cX7_init 126 = .ok (.bipush 33, 2) := by decide +kernel
theorem dX7_init_128 : decode cX7_init 128 = .ok (.newarray .int, 2) := by decide +kernel
theorem dX7_init_130 : decode cX7_init 130 = .ok (.putfield 56, 3) := by decide +kernel
theorem dX7_init_133 : decode cX7_init 133 = .ok (.aload_n 0, 1) := by decide +kernel
theorem dX7_init_134 : decode cX7_init 134 = .ok (.bipush 33, 2) := by decide +kernel
theorem dX7_init_136 : decode cX7_init 136 = .ok (.newarray .int, 2) := by decide +kernel
theorem dX7_init_138 : decode cX7_init 138 = .ok (.putfield 59, 3) := by decide +kernel
theorem dX7_init_141 : decode cX7_init 141 = .ok (.aload_n 0, 1) := by decide +kernel
theorem dX7_init_142 : decode cX7_init 142 = .ok (.sipush 297, 3) := by decide +kernel
theorem dX7_init_145 : decode cX7_init 145 = .ok (.newarray .int, 2) := by decide +kernel
theorem dX7_init_147 : decode cX7_init 147 = .ok (.putfield 62, 3) := by decide +kernel
theorem dX7_init_150 : decode cX7_init 150 = .ok (.aload_n 0, 1) := by decide +kernel
theorem dX7_init_151 : decode cX7_init 151 = .ok (.sipush 256, 3) := by decide +kernel
theorem dX7_init_154 : decode cX7_init 154 = .ok (.newarray .int, 2) := by decide +kernel
theorem dX7_init_156 : decode cX7_init 156 = .ok (.putfield 65, 3) := by decide +kernel
theorem dX7_init_159 : decode cX7_init 159 = .ok (.aload_n 0, 1) := by decide +kernel
theorem dX7_init_160 : decode cX7_init 160 = .ok (.iconst 3, 1) := by decide +kernel
theorem dX7_init_161 : decode cX7_init 161 = .ok (.newarray .int, 2) := by decide +kernel
theorem dX7_init_163 : decode cX7_init 163 = .ok (.putfield 68, 3) := by decide +kernel
theorem dX7_init_166 : decode cX7_init 166 = .ok (.aload_n 0, 1) := by decide +kernel
theorem dX7_init_167 : decode cX7_init 167 = .ok (.bipush 10, 2) := by decide +kernel
theorem dX7_init_169 : decode cX7_init 169 = .ok (.newarray .int, 2) := by decide +kernel
theorem dX7_init_171 : decode cX7_init 171 = .ok (.putfield 71, 3) := by decide +kernel
theorem dX7_init_174 : decode cX7_init 174 = .ok (.aload_n 0, 1) := by decide +kernel
theorem dX7_init_175 : decode cX7_init 175 = .ok (.bipush 10, 2) := by decide +kernel
theorem dX7_init_177 : decode cX7_init 177 = .ok (.newarray .int, 2) := by decide +kernel
theorem dX7_init_179 : decode cX7_init 179 = .ok (.putfield 74, 3) := by decide +kernel
theorem dX7_init_182 : decode cX7_init 182 = .ok (.aload_n 0, 1) := by decide +kernel
theorem dX7_init_183 : decode cX7_init 183 = .ok (.iconst 3, 1) := by decide +kernel
theorem dX7_init_184 : decode cX7_init 184 = .ok (.newarray .int, 2) := by decide +kernel
theorem dX7_init_186 : decode cX7_init 186 = .ok (.putfield 77, 3) := by decide +kernel
theorem dX7_init_189 : decode cX7_init 189 = .ok (.aload_n 0, 1) := by decide +kernel
theorem dX7_init_190 : decode cX7_init 190 = .ok (.bipush 8, 2) := by decide +kernel
theorem dX7_init_192 : decode cX7_init 192 = .ok (.newarray .int, 2) := by decide +kernel
theorem dX7_init_194 : decode cX7_init 194 = .ok (.putfield 80, 3) := by decide +kernel
theorem dX7_init_197 : decode cX7_init 197 = .ok (.aload_n 0, 1) := by decide +kernel
theorem dX7_init_198 : decode cX7_init 198 = .ok (.bipush 32, 2) := by decide +kernel
theorem dX7_init_200 : decode cX7_init 200 = .ok (.newarray .int, 2) := by decide +kernel
theorem dX7_init_202 : decode cX7_init 202 = .ok (.putfield 83, 3) := by decide +kernel
theorem dX7_init_205 : decode cX7_init 205 = .ok (.iconst 0, 1) := by decide +kernel
theorem dX7_init_206 : decode cX7_init 206 = .ok (.istore_n 1, 1) := by decide +kernel
theorem dX7_init_207 : decode cX7_init 207 = .ok (.iload_n 1, 1) := by decide +kernel
theorem dX7_init_208 : decode cX7_init 208 = .ok (.bipush 8, 2) := by decide +kernel
theorem dX7_init_210 : decode cX7_init 210 = .ok (.if_icmp .ge 16, 3) := by decide +kernel
theorem dX7_init_213 : decode cX7_init 213 = .ok (.aload_n 0, 1) := by decide +kernel
theorem dX7_init_214 : decode cX7_init 214 = .ok (.getfield 22, 3) := by decide +kernel
theorem dX7_init_217 : decode cX7_init 217 = .ok (.iload_n 1, 1) := by decide +kernel
theorem dX7_init_218 : decode cX7_init 218 = .ok (.iload_n 1, 1) := by decide +kernel
theorem dX7_init_219 : decode cX7_init 219 = .ok (.iastore, 1) := by decide +kernel
theorem dX7_init_220 : decode cX7_init 220 = .ok (.iinc 1 1, 3) := by decide +kernel
theorem dX7_init_223 : decode cX7_init 223 = .ok (.goto (-16), 3) := by decide +kernel
theorem dX7_init_226 : decode cX7_init 226 = .ok (.iconst 0, 1) := by decide +kernel
theorem dX7_init_227 : decode cX7_init 227 = .ok (.istore_n 1, 1) := by decide +kernel
theorem dX7_init_228 : decode cX7_init 228 = .ok (.iload_n 1, 1) := by decide +kernel
theorem dX7_init_229 : decode cX7_init 229 = .ok (.bipush 10, 2) := by decide +kernel
theorem dX7_init_231 : decode cX7_init 231 = .ok (.if_icmp .ge 17, 3) := by decide +kernel
theorem dX7_init_234 : decode cX7_init 234 = .ok (.aload_n 0, 1) := by decide +kernel
theorem dX7_init_235 : decode cX7_init 235 = .ok (.getfield 19, 3) := by decide +kernel
theorem dX7_init_238 : decode cX7_init 238 = .ok (.iload_n 1, 1) := by decide +kernel
theorem dX7_init_239 : decode cX7_init 239 = .ok (.bipush 99, 2) := by decide +kernel
theorem dX7_init_241 : decode cX7_init 241 = .ok (.iastore, 1) := by decide +kernel
theorem dX7_init_242 : decode cX7_init 242 = .ok (.iinc 1 1, 3) := by decide +kernel
theorem dX7_init_245 : decode cX7_init 245 = .ok (.goto (-17), 3) := by decide +kernel
theorem dX7_init_248 : decode cX7_init 248 = .ok (.aload_n 0, 1) := by decide +kernel
theorem dX7_init_249 : decode cX7_init 249 = .ok (.bipush 8, 2) := by decide +kernel
theorem dX7_init_251 : decode cX7_init 251 = .ok (.putfield 86, 3) := by decide +kernel
theorem dX7_init_254 : decode cX7_init 254 = .ok (.aload_n 0, 1) := by decide +kernel
theorem dX7_init_255 : decode cX7_init 255 = .ok (.iconst 4, 1) := by decide +kernel
theorem dX7_init_256 : decode cX7_init 256 = .ok (.putfield 90, 3) := by decide +kernel
theorem dX7_init_259 : decode cX7_init 259 = .ok (.return_, 1) := by decide +kernel
theorem dX7_no_0 : decode cX7_no 0 = .ok (.aload_n 0, 1) := by decide +kernel
theorem dX7_no_1 : decode cX7_no 1 = .ok (.getfield 7, 3) := by decide +kernel
theorem dX7_no_4 : decode cX7_no 4 = .ok (.iload_n 1, 1) := by decide +kernel
theorem dX7_no_5 : decode cX7_no 5 = .ok (.ineg, 1) := by decide +kernel
theorem dX7_no_6 : decode cX7_no 6 = .ok (.dup2, 1) := by decide +kernel
theorem dX7_no_7 : decode cX7_no 7 = .ok (.iaload, 1) := by decide +kernel
theorem dX7_no_8 : decode cX7_no 8 = .ok (.iconst 1, 1) := by decide +kernel
theorem dX7_no_9 : decode cX7_no 9 = .ok (.iadd, 1) := by decide +kernel
theorem dX7_no_10 : decode cX7_no 10 = .ok (.iastore, 1) := by decide +kernel
theorem dX7_no_11 : decode cX7_no 11 = .ok (.iload_n 1, 1) := by decide +kernel
theorem dX7_no_12 : decode cX7_no 12 = .ok (.ireturn, 1) := by decide +kernel
theorem dX7_lower_0 : decode cX7_lower 0 = .ok (.aload_n 0, 1) := by decide +kernel
theorem dX7_lower_1 : decode cX7_lower 1 = .ok (.getfield 7, 3) := by decide +kernel
theorem dX7_lower_4 : decode cX7_lower 4 = .ok (.iload_n 1, 1) := by decide +kernel
theorem dX7_lower_5 : decode cX7_lower 5 = .ok (.ineg, 1) := by decide +kernel
theorem dX7_lower_6 : decode cX7_lower 6 = .ok (.dup2, 1) := by decide +kernel
theorem dX7_lower_7 : decode cX7_lower 7 = .ok (.iaload, 1) := by decide +kernel
theorem dX7_lower_8 : decode cX7_lower 8 = .ok (.iconst 1, 1) := by decide +kernel
theorem dX7_lower_9 : decode cX7_lower 9 = .ok (.iadd, 1) := by decide +kernel
theorem dX7_lower_10 : decode cX7_lower 10 = .ok (.iastore, 1) := by decide +kernel
theorem dX7_lower_11 : decode cX7_lower 11 = .ok (.ldc 93, 2) := by decide +kernel
theorem dX7_lower_13 : decode cX7_lower 13 = .ok (.iload_n 1, 1) := by decide +kernel
theorem dX7_lower_14 : decode cX7_lower 14 = .ok (.isub, 1) := by decide +kernel
theorem dX7_lower_15 : decode cX7_lower 15 = .ok (.ireturn, 1) := by decide +kernel
theorem dX7_lowestOf_0 : decode cX7_lowestOf 0 = .ok (.aload_n 0, 1) := by decide +kernel
theorem dX7_lowestOf_1 : decode cX7_lowestOf 1 = .ok (.getfield 7, 3) := by decide +kernel
theorem dX7_lowestOf_4 : decode cX7_lowestOf 4 = .ok (.iload_n 1, 1) := by decide +kernel
theorem dX7_lowestOf_5 : decode cX7_lowestOf 5 = .ok (.ineg, 1) := by decide +kernel
theorem dX7_lowestOf_6 : decode cX7_lowestOf 6 = .ok (.dup2, 1) := by decide +kernel
theorem dX7_lowestOf_7 : decode cX7_lowestOf 7 = .ok (.iaload, 1) := by decide +kernel
theorem dX7_lowestOf_8 : decode cX7_lowestOf 8 = .ok (.iconst 1, 1) := by decide +kernel
theorem dX7_lowestOf_9 : decode cX7_lowestOf 9 = .ok (.iadd, 1) := by decide +kernel
theorem dX7_lowestOf_10 : decode cX7_lowestOf 10 = .ok (.iastore, 1) := by decide +kernel
theorem dX7_lowestOf_11 : decode cX7_lowestOf 11 = .ok (.ldc2_w 94, 3) := by decide +kernel
theorem dX7_lowestOf_14 : decode cX7_lowestOf 14 = .ok (.iload_n 1, 1) := by decide +kernel
theorem dX7_lowestOf_15 : decode cX7_lowestOf 15 = .ok (.i2l, 1) := by decide +kernel
theorem dX7_lowestOf_16 : decode cX7_lowestOf 16 = .ok (.lsub, 1) := by decide +kernel
theorem dX7_lowestOf_17 : decode cX7_lowestOf 17 = .ok (.lreturn, 1) := by decide +kernel
theorem dX7_isIn_0 : decode cX7_isIn 0 = .ok (.iload_n 0, 1) := by decide +kernel
theorem dX7_isIn_1 : decode cX7_isIn 1 = .ok (.iload_n 1, 1) := by decide +kernel
theorem dX7_isIn_2 : decode cX7_isIn 2 = .ok (.if_icmp .lt 12, 3) := by decide +kernel
theorem dX7_isIn_5 : decode cX7_isIn 5 = .ok (.iload_n 0, 1) := by decide +kernel
theorem dX7_isIn_6 : decode cX7_isIn 6 = .ok (.iload_n 2, 1) := by decide +kernel
theorem dX7_isIn_7 : decode cX7_isIn 7 = .ok (.if_icmp .gt 7, 3) := by decide +kernel
theorem dX7_isIn_10 : decode cX7_isIn 10 = .ok (.iconst 1, 1) := by decide +kernel
theorem dX7_isIn_11 : decode cX7_isIn 11 = .ok (.goto 4, 3) := by decide +kernel
theorem dX7_isIn_14 : decode cX7_isIn 14 = .ok (.iconst 0, 1) := by decide +kernel
theorem dX7_isIn_15 : decode cX7_isIn 15 = .ok (.ireturn, 1) := by decide +kernel
theorem dX7_bound_0 : decode cX7_bound 0 = .ok (.iload_n 0, 1) := by decide +kernel
theorem dX7_bound_1 : decode cX7_bound 1 = .ok (.iload_n 1, 1) := by decide +kernel
theorem dX7_bound_2 : decode cX7_bound 2 = .ok (.if_icmp .ge 8, 3) := by decide +kernel
theorem dX7_bound_5 : decode cX7_bound 5 = .ok (.bipush (-4), 2) := by decide +kernel
theorem dX7_bound_7 : decode cX7_bound 7 = .ok (.goto 14, 3) := by decide +kernel
theorem dX7_bound_10 : decode cX7_bound 10 = .ok (.iload_n 0, 1) := by decide +kernel
theorem dX7_bound_11 : decode cX7_bound 11 = .ok (.iload_n 2, 1) := by decide +kernel
theorem dX7_bound_12 : decode cX7_bound 12 = .ok (.if_icmp .le 8, 3) := by decide +kernel
theorem dX7_bound_15 : decode cX7_bound 15 = .ok (.bipush (-6), 2) := by decide +kernel
theorem dX7_bound_17 : decode cX7_bound 17 = .ok (.goto 4, 3) := by decide +kernel
theorem dX7_bound_20 : decode cX7_bound 20 = .ok (.iconst 0, 1) := by decide +kernel
theorem dX7_bound_21 : decode cX7_bound 21 = .ok (.ireturn, 1) := by decide +kernel
theorem dX7_has_0 : decode cX7_has 0 = .ok (.iload_n 0, 1) := by decide +kernel
theorem dX7_has_1 : decode cX7_has 1 = .ok (.iload_n 1, 1) := by decide +kernel
theorem dX7_has_2 : decode cX7_has 2 = .ok (.ishr, 1) := by decide +kernel
theorem dX7_has_3 : decode cX7_has 3 = .ok (.iconst 1, 1) := by decide +kernel
theorem dX7_has_4 : decode cX7_has 4 = .ok (.iand, 1) := by decide +kernel
theorem dX7_has_5 : decode cX7_has 5 = .ok (.iconst 1, 1) := by decide +kernel
theorem dX7_has_6 : decode cX7_has 6 = .ok (.if_icmp .ne 7, 3) := by decide +kernel
theorem dX7_has_9 : decode cX7_has 9 = .ok (.iconst 1, 1) := by decide +kernel
theorem dX7_has_10 : decode cX7_has 10 = .ok (.goto 4, 3) := by decide +kernel
theorem dX7_has_13 : decode cX7_has 13 = .ok (.iconst 0, 1) := by decide +kernel
theorem dX7_has_14 : decode cX7_has 14 = .ok (.ireturn, 1) := by decide +kernel
theorem dX7_bits_0 : decode cX7_bits 0 = .ok (.iconst 0, 1) := by decide +kernel
theorem dX7_bits_1 : decode cX7_bits 1 = .ok (.istore_n 1, 1) := by decide +kernel
theorem dX7_bits_2 : decode cX7_bits 2 = .ok (.iconst 0, 1) := by decide +kernel
theorem dX7_bits_3 : decode cX7_bits 3 = .ok (.istore_n 2, 1) := by decide +kernel
theorem dX7_bits_4 : decode cX7_bits 4 = .ok (.iload_n 2, 1) := by decide +kernel
theorem dX7_bits_5 : decode cX7_bits 5 = .ok (.bipush 31, 2) := by decide +kernel
theorem dX7_bits_7 : decode cX7_bits 7 = .ok (.if_icmp .ge 17, 3) := by decide +kernel
theorem dX7_bits_10 : decode cX7_bits 10 = .ok (.iload_n 1, 1) := by decide +kernel
theorem dX7_bits_11 : decode cX7_bits 11 = .ok (.iload_n 0, 1) := by decide +kernel
theorem dX7_bits_12 : decode cX7_bits 12 = .ok (.iload_n 2, 1) := by decide +kernel
theorem dX7_bits_13 : decode cX7_bits 13 = .ok (.ishr, 1) := by decide +kernel
theorem dX7_bits_14 : decode cX7_bits 14 = .ok (.iconst 1, 1) := by decide +kernel
theorem dX7_bits_15 : decode cX7_bits 15 = .ok (.iand, 1) := by decide +kernel
theorem dX7_bits_16 : decode cX7_bits 16 = .ok (.iadd, 1) := by decide +kernel
theorem dX7_bits_17 : decode cX7_bits 17 = .ok (.istore_n 1, 1) := by decide +kernel
theorem dX7_bits_18 : decode cX7_bits 18 = .ok (.iinc 2 1, 3) := by decide +kernel
theorem dX7_bits_21 : decode cX7_bits 21 = .ok (.goto (-17), 3) := by decide +kernel
theorem dX7_bits_24 : decode cX7_bits 24 = .ok (.iload_n 1, 1) := by decide +kernel
theorem dX7_bits_25 : decode cX7_bits 25 = .ok (.ireturn, 1) := by decide +kernel
theorem dX7_isPerson_0 : decode cX7_isPerson 0 = .ok (.iload_n 0, 1) := by decide +kernel
theorem dX7_isPerson_1 : decode cX7_isPerson 1 = .ok (.iconst 0, 1) := by decide +kernel
theorem dX7_isPerson_2 : decode cX7_isPerson 2 = .ok (.bipush 7, 2) := by decide +kernel
theorem dX7_isPerson_4 : decode cX7_isPerson 4 = .ok (.invokestatic 96, 3) := by decide +kernel
theorem dX7_isPerson_7 : decode cX7_isPerson 7 = .ok (.ireturn, 1) := by decide +kernel
theorem dX7_isVariable_0 : decode cX7_isVariable 0 = .ok (.iload_n 1, 1) := by decide +kernel
theorem dX7_isVariable_1 : decode cX7_isVariable 1 = .ok (.iconst 0, 1) := by decide +kernel
theorem dX7_isVariable_2 : decode cX7_isVariable 2 = .ok (.aload_n 0, 1) := by decide +kernel
theorem dX7_isVariable_3 : decode cX7_isVariable 3 = .ok (.getfield 86, 3) := by decide +kernel
theorem dX7_isVariable_6 : decode cX7_isVariable 6 = .ok (.iconst 1, 1) := by decide +kernel
theorem dX7_isVariable_7 : decode cX7_isVariable 7 = .ok (.isub, 1) := by decide +kernel
theorem dX7_isVariable_8 : decode cX7_isVariable 8 = .ok (.invokestatic 96, 3) := by decide +kernel
theorem dX7_isVariable_11 : decode cX7_isVariable 11 = .ok (.ireturn, 1) := by decide +kernel
theorem dX7_isFree_0 : decode cX7_isFree 0 = .ok (.iconst 0, 1) := by decide +kernel
theorem dX7_isFree_1 : decode cX7_isFree 1 = .ok (.istore_n 2, 1) := by decide +kernel
theorem dX7_isFree_2 : decode cX7_isFree 2 = .ok (.iload_n 2, 1) := by decide +kernel
theorem dX7_isFree_3 : decode cX7_isFree 3 = .ok (.aload_n 0, 1) := by decide +kernel
theorem dX7_isFree_4 : decode cX7_isFree 4 = .ok (.getfield 100, 3) := by decide +kernel
theorem dX7_isFree_7 : decode cX7_isFree 7 = .ok (.if_icmp .ge 25, 3) := by decide +kernel
theorem dX7_isFree_10 : decode cX7_isFree 10 = .ok (.aload_n 0, 1) := by decide +kernel
theorem dX7_isFree_11 : decode cX7_isFree 11 = .ok (.getfield 25, 3) := by decide +kernel
theorem dX7_isFree_14 : decode cX7_isFree 14 = .ok (.bipush 10, 2) := by decide +kernel
theorem dX7_isFree_16 : decode cX7_isFree 16 = .ok (.iload_n 2, 1) := by decide +kernel
theorem dX7_isFree_17 : decode cX7_isFree 17 = .ok (.imul, 1) := by decide +kernel
theorem dX7_isFree_18 : decode cX7_isFree 18 = .ok (.iload_n 1, 1) := by decide +kernel
theorem dX7_isFree_19 : decode cX7_isFree 19 = .ok (.iadd, 1) := by decide +kernel
theorem dX7_isFree_20 : decode cX7_isFree 20 = .ok (.iaload, 1) := by decide +kernel
theorem dX7_isFree_21 : decode cX7_isFree 21 = .ok (.ifCond .eq 5, 3) := by decide +kernel
theorem dX7_isFree_24 : decode cX7_isFree 24 = .ok (.iconst 0, 1) := by decide +kernel
theorem dX7_isFree_25 : decode cX7_isFree 25 = .ok (.ireturn, 1) := by decide +kernel
theorem dX7_isFree_26 : decode cX7_isFree 26 = .ok (.iinc 2 1, 3) := by decide +kernel
theorem dX7_isFree_29 : decode cX7_isFree 29 = .ok (.goto (-27), 3) := by decide +kernel
theorem dX7_isFree_32 : decode cX7_isFree 32 = .ok (.iconst 1, 1) := by decide +kernel
theorem dX7_isFree_33 : decode cX7_isFree 33 = .ok (.ireturn, 1) := by decide +kernel
theorem dX7_notQuestion_0 : decode cX7_notQuestion 0 = .ok (.iload_n 0, 1) := by decide +kernel
theorem dX7_notQuestion_1 : decode cX7_notQuestion 1 = .ok (.iconst 0, 1) := by decide +kernel
theorem dX7_notQuestion_2 : decode cX7_notQuestion 2 = .ok (.iconst 2, 1) := by decide +kernel
theorem dX7_notQuestion_3 : decode cX7_notQuestion 3 = .ok (.invokestatic 96, 3) := by decide +kernel
theorem dX7_notQuestion_6 : decode cX7_notQuestion 6 = .ok (.ifCond .ne 6, 3) := by decide +kernel
theorem dX7_notQuestion_9 : decode cX7_notQuestion 9 = .ok (.bipush (-2), 2) := by decide +kernel
theorem dX7_notQuestion_11 : decode cX7_notQuestion 11 = .ok (.ireturn, 1) := by decide +kernel
theorem dX7_notQuestion_12 : decode cX7_notQuestion 12 = .ok (.iload_n 0, 1) := by decide +kernel
theorem dX7_notQuestion_13 : decode cX7_notQuestion 13 = .ok (.iconst 1, 1) := by decide +kernel
theorem dX7_notQuestion_14 : decode cX7_notQuestion 14 = .ok (.if_icmp .ne 9, 3) := by decide +kernel
theorem dX7_notQuestion_17 : decode cX7_notQuestion 17 = .ok (.sipush 255, 3) := by decide +kernel
theorem dX7_notQuestion_20 : decode cX7_notQuestion 20 = .ok (.goto 4, 3) := by decide +kernel
theorem dX7_notQuestion_23 : decode cX7_notQuestion 23 = .ok (.iconst 3, 1) := by decide +kernel
theorem dX7_notQuestion_24 : decode cX7_notQuestion 24 = .ok (.istore_n 3, 1) := by decide +kernel
theorem dX7_notQuestion_25 : decode cX7_notQuestion 25 = .ok (.iload_n 1, 1) := by decide +kernel
theorem dX7_notQuestion_26 : decode cX7_notQuestion 26 = .ok (.iconst 1, 1) := by decide +kernel
theorem dX7_notQuestion_27 : decode cX7_notQuestion 27 = .ok (.if_icmp .lt 12, 3) := by decide +kernel
theorem dX7_notQuestion_30 : decode cX7_notQuestion 30 = .ok (.iload_n 0, 1) := by decide +kernel
theorem dX7_notQuestion_31 : decode cX7_notQuestion 31 = .ok (.ifCond .eq 11, 3) := by decide +kernel
theorem dX7_notQuestion_34 : decode cX7_notQuestion 34 = .ok (.iload_n 2, 1) := by decide +kernel
theorem dX7_notQuestion_35 : decode cX7_notQuestion 35 = .ok (.iconst 1, 1) := by decide +kernel
theorem dX7_notQuestion_36 : decode cX7_notQuestion 36 = .ok (.if_icmp .ge 6, 3) := by decide +kernel
theorem dX7_notQuestion_39 : decode cX7_notQuestion 39 = .ok (.bipush (-4), 2) := by decide +kernel
theorem dX7_notQuestion_41 : decode cX7_notQuestion 41 = .ok (.ireturn, 1) := by decide +kernel
theorem dX7_notQuestion_42 : decode cX7_notQuestion 42 = .ok (.iload_n 1, 1) := by decide +kernel
theorem dX7_notQuestion_43 : decode cX7_notQuestion 43 = .ok (.sipush 255, 3) := by decide +kernel
theorem dX7_notQuestion_46 : decode cX7_notQuestion 46 = .ok (.if_icmp .gt 12, 3) := by decide +kernel
theorem dX7_notQuestion_49 : decode cX7_notQuestion 49 = .ok (.iload_n 0, 1) := by decide +kernel
theorem dX7_notQuestion_50 : decode cX7_notQuestion 50 = .ok (.ifCond .eq 11, 3) := by decide +kernel
theorem dX7_notQuestion_53 : decode cX7_notQuestion 53 = .ok (.iload_n 2, 1) := by decide +kernel
theorem dX7_notQuestion_54 : decode cX7_notQuestion 54 = .ok (.iload_n 3, 1) := by decide +kernel
theorem dX7_notQuestion_55 : decode cX7_notQuestion 55 = .ok (.if_icmp .le 6, 3) := by decide +kernel
theorem dX7_notQuestion_58 : decode cX7_notQuestion 58 = .ok (.bipush (-6), 2) := by decide +kernel
theorem dX7_notQuestion_60 : decode cX7_notQuestion 60 = .ok (.ireturn, 1) := by decide +kernel
theorem dX7_notQuestion_61 : decode cX7_notQuestion 61 = .ok (.iload_n 0, 1) := by decide +kernel
theorem dX7_notQuestion_62 : decode cX7_notQuestion 62 = .ok (.iconst 1, 1) := by decide +kernel
theorem dX7_notQuestion_63 : decode cX7_notQuestion 63 = .ok (.if_icmp .ne 14, 3) := by decide +kernel
theorem dX7_notQuestion_66 : decode cX7_notQuestion 66 = .ok (.iload_n 1, 1) := by decide +kernel
theorem dX7_notQuestion_67 : decode cX7_notQuestion 67 = .ok (.iload_n 2, 1) := by decide +kernel
theorem dX7_notQuestion_68 : decode cX7_notQuestion 68 = .ok (.iand, 1) := by decide +kernel
theorem dX7_notQuestion_69 : decode cX7_notQuestion 69 = .ok (.ifCond .eq 8, 3) := by decide +kernel
theorem dX7_notQuestion_72 : decode cX7_notQuestion 72 = .ok (.bipush (-3), 2) := by decide +kernel
theorem dX7_notQuestion_74 : decode cX7_notQuestion 74 = .ok (.goto 4, 3) := by decide +kernel
theorem dX7_notQuestion_77 : decode cX7_notQuestion 77 = .ok (.iconst 0, 1) := by decide +kernel
theorem dX7_notQuestion_78 : decode cX7_notQuestion 78 = .ok (.ireturn, 1) := by decide +kernel
theorem dX7_weight_0 : decode cX7_weight 0 = .ok (.iload_n 0, 1) := by decide +kernel
theorem dX7_weight_1 : decode cX7_weight 1 = .ok (.iconst 1, 1) := by decide +kernel
theorem dX7_weight_2 : decode cX7_weight 2 = .ok (.if_icmp .ne 15, 3) := by decide +kernel
theorem dX7_weight_5 : decode cX7_weight 5 = .ok (.iload_n 1, 1) := by decide +kernel
theorem dX7_weight_6 : decode cX7_weight 6 = .ok (.iload_n 3, 1) := by decide +kernel
theorem dX7_weight_7 : decode cX7_weight 7 = .ok (.ishr, 1) := by decide +kernel
theorem dX7_weight_8 : decode cX7_weight 8 = .ok (.iconst 1, 1) := by decide +kernel
theorem dX7_weight_9 : decode cX7_weight 9 = .ok (.iand, 1) := by decide +kernel
theorem dX7_weight_10 : decode cX7_weight 10 = .ok (.iload_n 2, 1) := by decide +kernel
theorem dX7_weight_11 : decode cX7_weight 11 = .ok (.iload_n 3, 1) := by decide +kernel
theorem dX7_weight_12 : decode cX7_weight 12 = .ok (.ishr, 1) := by decide +kernel
theorem dX7_weight_13 : decode cX7_weight 13 = .ok (.iconst 1, 1) := by decide +kernel
theorem dX7_weight_14 : decode cX7_weight 14 = .ok (.iand, 1) := by decide +kernel
theorem dX7_weight_15 : decode cX7_weight 15 = .ok (.isub, 1) := by decide +kernel
theorem dX7_weight_16 : decode cX7_weight 16 = .ok (.ireturn, 1) := by decide +kernel
theorem dX7_weight_17 : decode cX7_weight 17 = .ok (.iload_n 1, 1) := by decide +kernel
theorem dX7_weight_18 : decode cX7_weight 18 = .ok (.iload_n 3, 1) := by decide +kernel
theorem dX7_weight_19 : decode cX7_weight 19 = .ok (.invokestatic 103, 3) := by decide +kernel
theorem dX7_weight_22 : decode cX7_weight 22 = .ok (.ifCond .ne 7, 3) := by decide +kernel
theorem dX7_weight_25 : decode cX7_weight 25 = .ok (.iconst 0, 1) := by decide +kernel
theorem dX7_weight_26 : decode cX7_weight 26 = .ok (.goto 16, 3) := by decide +kernel
theorem dX7_weight_29 : decode cX7_weight 29 = .ok (.iload_n 0, 1) := by decide +kernel
theorem dX7_weight_30 : decode cX7_weight 30 = .ok (.ifCond .ne 7, 3) := by decide +kernel
theorem dX7_weight_33 : decode cX7_weight 33 = .ok (.iconst 1, 1) := by decide +kernel
theorem dX7_weight_34 : decode cX7_weight 34 = .ok (.goto 8, 3) := by decide +kernel
theorem dX7_weight_37 : decode cX7_weight 37 = .ok (.iload_n 3, 1) := by decide +kernel
theorem dX7_weight_38 : decode cX7_weight 38 = .ok (.iload_n 2, 1) := by decide +kernel
theorem dX7_weight_39 : decode cX7_weight 39 = .ok (.irem, 1) := by decide +kernel
theorem dX7_weight_40 : decode cX7_weight 40 = .ok (.iconst 1, 1) := by decide +kernel
theorem dX7_weight_41 : decode cX7_weight 41 = .ok (.iadd, 1) := by decide +kernel
theorem dX7_weight_42 : decode cX7_weight 42 = .ok (.ireturn, 1) := by decide +kernel
theorem dX7_asks_0 : decode cX7_asks 0 = .ok (.aload_n 0, 1) := by decide +kernel
theorem dX7_asks_1 : decode cX7_asks 1 = .ok (.iconst 0, 1) := by decide +kernel
theorem dX7_asks_2 : decode cX7_asks 2 = .ok (.putfield 107, 3) := by decide +kernel
theorem dX7_asks_5 : decode cX7_asks 5 = .ok (.iconst 0, 1) := by decide +kernel
theorem dX7_asks_6 : decode cX7_asks 6 = .ok (.istore 4, 2) := by decide +kernel
theorem dX7_asks_8 : decode cX7_asks 8 = .ok (.iload 4, 2) := by decide +kernel
theorem dX7_asks_10 : decode cX7_asks 10 = .ok (.bipush 10, 2) := by decide +kernel
theorem dX7_asks_12 : decode cX7_asks 12 = .ok (.if_icmp .ge 17, 3) := by decide +kernel
theorem dX7_asks_15 : decode cX7_asks 15 = .ok (.aload_n 0, 1) := by decide +kernel
theorem dX7_asks_16 : decode cX7_asks 16 = .ok (.getfield 31, 3) := by decide +kernel
theorem dX7_asks_19 : decode cX7_asks 19 = .ok (.iload 4, 2) := by decide +kernel
theorem dX7_asks_21 : decode cX7_asks 21 = .ok (.iconst 0, 1) := by decide +kernel
theorem dX7_asks_22 : decode cX7_asks 22 = .ok (.iastore, 1) := by decide +kernel
theorem dX7_asks_23 : decode cX7_asks 23 = .ok (.iinc 4 1, 3) := by decide +kernel
theorem dX7_asks_26 : decode cX7_asks 26 = .ok (.goto (-18), 3) := by decide +kernel
theorem dX7_asks_29 : decode cX7_asks 29 = .ok (.iconst 0, 1) := by decide +kernel
theorem dX7_asks_30 : decode cX7_asks 30 = .ok (.istore 4, 2) := by decide +kernel
theorem dX7_asks_32 : decode cX7_asks 32 = .ok (.iload 4, 2) := by decide +kernel
theorem dX7_asks_34 : decode cX7_asks 34 = .ok (.bipush 8, 2) := by decide +kernel
theorem dX7_asks_36 : decode cX7_asks 36 = .ok (.if_icmp .ge 52, 3) := by decide +kernel
theorem dX7_asks_39 : decode cX7_asks 39 = .ok (.iload_n 1, 1) := by decide +kernel
theorem dX7_asks_40 : decode cX7_asks 40 = .ok (.iload_n 2, 1) := by decide +kernel
theorem dX7_asks_41 : decode cX7_asks 41 = .ok (.iload_n 3, 1) := by decide +kernel
theorem dX7_asks_42 : decode cX7_asks 42 = .ok (.iload 4, 2) := by decide +kernel
theorem dX7_asks_44 : decode cX7_asks 44 = .ok (.invokestatic 110, 3) := by decide +kernel
theorem dX7_asks_47 : decode cX7_asks 47 = .ok (.istore 5, 2) := by decide +kernel
theorem dX7_asks_49 : decode cX7_asks 49 = .ok (.aload_n 0, 1) := by decide +kernel
theorem dX7_asks_50 : decode cX7_asks 50 = .ok (.getfield 31, 3) := by decide +kernel
theorem dX7_asks_53 : decode cX7_asks 53 = .ok (.aload_n 0, 1) := by decide +kernel
theorem dX7_asks_54 : decode cX7_asks 54 = .ok (.getfield 22, 3) := by decide +kernel
theorem dX7_asks_57 : decode cX7_asks 57 = .ok (.iload 4, 2) := by decide +kernel
theorem dX7_asks_59 : decode cX7_asks 59 = .ok (.iaload, 1) := by decide +kernel
theorem dX7_asks_60 : decode cX7_asks 60 = .ok (.iload 5, 2) := by decide +kernel
theorem dX7_asks_62 : decode cX7_asks 62 = .ok (.iastore, 1) := by decide +kernel
theorem dX7_asks_63 : decode cX7_asks 63 = .ok (.aload_n 0, 1) := by decide +kernel
theorem dX7_asks_64 : decode cX7_asks 64 = .ok (.dup, 1) := by decide +kernel
theorem dX7_asks_65 : decode cX7_asks 65 = .ok (.getfield 107, 3) := by decide +kernel
theorem dX7_asks_68 : decode cX7_asks 68 = .ok (.iload 5, 2) := by decide +kernel
theorem dX7_asks_70 : decode cX7_asks 70 = .ok (.ifCond .eq 7, 3) := by decide +kernel
theorem dX7_asks_73 : decode cX7_asks 73 = .ok (.iconst 1, 1) := by decide +kernel
theorem dX7_asks_74 : decode cX7_asks 74 = .ok (.goto 4, 3) := by decide +kernel
theorem dX7_asks_77 : decode cX7_asks 77 = .ok (.iconst 0, 1) := by decide +kernel
theorem dX7_asks_78 : decode cX7_asks 78 = .ok (.iadd, 1) := by decide +kernel
theorem dX7_asks_79 : decode cX7_asks 79 = .ok (.putfield 107, 3) := by decide +kernel
theorem dX7_asks_82 : decode cX7_asks 82 = .ok (.iinc 4 1, 3) := by decide +kernel
theorem dX7_asks_85 : decode cX7_asks 85 = .ok (.goto (-53), 3) := by decide +kernel
theorem dX7_asks_88 : decode cX7_asks 88 = .ok (.return_, 1) := by decide +kernel
theorem dX7_trueAnswer_0 : decode cX7_trueAnswer 0 = .ok (.iconst 0, 1) := by decide +kernel
theorem dX7_trueAnswer_1 : decode cX7_trueAnswer 1 = .ok (.istore_n 1, 1) := by decide +kernel
theorem dX7_trueAnswer_2 : decode cX7_trueAnswer 2 = .ok (.iconst 0, 1) := by decide +kernel
theorem dX7_trueAnswer_3 : decode cX7_trueAnswer 3 = .ok (.istore_n 2, 1) := by decide +kernel
theorem dX7_trueAnswer_4 : decode cX7_trueAnswer 4 = .ok (.iload_n 2, 1) := by decide +kernel
theorem dX7_trueAnswer_5 : decode cX7_trueAnswer 5 = .ok (.bipush 10, 2) := by decide +kernel
theorem dX7_trueAnswer_7 : decode cX7_trueAnswer 7 = .ok (.if_icmp .ge 25, 3) := by decide +kernel
theorem dX7_trueAnswer_10 : decode cX7_trueAnswer 10 = .ok (.iload_n 1, 1) := by decide +kernel
theorem dX7_trueAnswer_11 : decode cX7_trueAnswer 11 = .ok (.aload_n 0, 1) := by decide +kernel
theorem dX7_trueAnswer_12 : decode cX7_trueAnswer 12 = .ok (.getfield 31, 3) := by decide +kernel
theorem dX7_trueAnswer_15 : decode cX7_trueAnswer 15 = .ok (.iload_n 2, 1) := by decide +kernel
theorem dX7_trueAnswer_16 : decode cX7_trueAnswer 16 = .ok (.iaload, 1) := by decide +kernel
theorem dX7_trueAnswer_17 : decode cX7_trueAnswer 17 = .ok (.aload_n 0, 1) := by decide +kernel
theorem dX7_trueAnswer_18 : decode cX7_trueAnswer 18 = .ok (.getfield 13, 3) := by decide +kernel
theorem dX7_trueAnswer_21 : decode cX7_trueAnswer 21 = .ok (.iload_n 2, 1) := by decide +kernel
theorem dX7_trueAnswer_22 : decode cX7_trueAnswer 22 = .ok (.iaload, 1) := by decide +kernel
theorem dX7_trueAnswer_23 : decode cX7_trueAnswer 23 = .ok (.imul, 1) := by decide +kernel
theorem dX7_trueAnswer_24 : decode cX7_trueAnswer 24 = .ok (.iadd, 1) := by decide +kernel
theorem dX7_trueAnswer_25 : decode cX7_trueAnswer 25 = .ok (.istore_n 1, 1) := by decide +kernel
theorem dX7_trueAnswer_26 : decode cX7_trueAnswer 26 = .ok (.iinc 2 1, 3) := by decide +kernel
theorem dX7_trueAnswer_29 : decode cX7_trueAnswer 29 = .ok (.goto (-25), 3) := by decide +kernel
theorem dX7_trueAnswer_32 : decode cX7_trueAnswer 32 = .ok (.iload_n 1, 1) := by decide +kernel
theorem dX7_trueAnswer_33 : decode cX7_trueAnswer 33 = .ok (.ireturn, 1) := by decide +kernel
theorem dX7_sizeOf_0 : decode cX7_sizeOf 0 = .ok (.lload_n 0, 1) := by decide +kernel
theorem dX7_sizeOf_1 : decode cX7_sizeOf 1 = .ok (.lconst 0, 1) := by decide +kernel
theorem dX7_sizeOf_2 : decode cX7_sizeOf 2 = .ok (.lcmp, 1) := by decide +kernel
theorem dX7_sizeOf_3 : decode cX7_sizeOf 3 = .ok (.ifCond .ge 8, 3) := by decide +kernel
theorem dX7_sizeOf_6 : decode cX7_sizeOf 6 = .ok (.lload_n 0, 1) := by decide +kernel
theorem dX7_sizeOf_7 : decode cX7_sizeOf 7 = .ok (.lneg, 1) := by decide +kernel
theorem dX7_sizeOf_8 : decode cX7_sizeOf 8 = .ok (.goto 4, 3) := by decide +kernel
theorem dX7_sizeOf_11 : decode cX7_sizeOf 11 = .ok (.lload_n 0, 1) := by decide +kernel
theorem dX7_sizeOf_12 : decode cX7_sizeOf 12 = .ok (.lreturn, 1) := by decide +kernel
theorem dX7_divisor_0 : decode cX7_divisor 0 = .ok (.lload_n 0, 1) := by decide +kernel
theorem dX7_divisor_1 : decode cX7_divisor 1 = .ok (.invokestatic 114, 3) := by decide +kernel
theorem dX7_divisor_4 : decode cX7_divisor 4 = .ok (.lstore 4, 2) := by decide +kernel
theorem dX7_divisor_6 : decode cX7_divisor 6 = .ok (.lload_n 2, 1) := by decide +kernel
theorem dX7_divisor_7 : decode cX7_divisor 7 = .ok (.invokestatic 114, 3) := by decide +kernel
theorem dX7_divisor_10 : decode cX7_divisor 10 = .ok (.lstore 6, 2) := by decide +kernel
theorem dX7_divisor_12 : decode cX7_divisor 12 = .ok (.lload 6, 2) := by decide +kernel
theorem dX7_divisor_14 : decode cX7_divisor 14 = .ok (.lconst 0, 1) := by decide +kernel
theorem dX7_divisor_15 : decode cX7_divisor 15 = .ok (.lcmp, 1) := by decide +kernel
theorem dX7_divisor_16 : decode cX7_divisor 16 = .ok (.ifCond .eq 21, 3) := by decide +kernel
theorem dX7_divisor_19 : decode cX7_divisor 19 = .ok (.lload 4, 2) := by decide +kernel
theorem dX7_divisor_21 : decode cX7_divisor 21 = .ok (.lload 6, 2) := by decide +kernel
theorem dX7_divisor_23 : decode cX7_divisor 23 = .ok (.lrem, 1) := by decide +kernel
theorem dX7_divisor_24 : decode cX7_divisor 24 = .ok (.lstore 8, 2) := by decide +kernel
theorem dX7_divisor_26 : decode cX7_divisor 26 = .ok (.lload 6, 2) := by decide +kernel
theorem dX7_divisor_28 : decode cX7_divisor 28 = .ok (.lstore 4, 2) := by decide +kernel
theorem dX7_divisor_30 : decode cX7_divisor 30 = .ok (.lload 8, 2) := by decide +kernel
theorem dX7_divisor_32 : decode cX7_divisor 32 = .ok (.lstore 6, 2) := by decide +kernel
theorem dX7_divisor_34 : decode cX7_divisor 34 = .ok (.goto (-22), 3) := by decide +kernel
theorem dX7_divisor_37 : decode cX7_divisor 37 = .ok (.lload 4, 2) := by decide +kernel
theorem dX7_divisor_39 : decode cX7_divisor 39 = .ok (.lreturn, 1) := by decide +kernel
theorem dX7_makesLeast_0 : decode cX7_makesLeast 0 = .ok (.lconst 0, 1) := by decide +kernel
theorem dX7_makesLeast_1 : decode cX7_makesLeast 1 = .ok (.lstore_n 2, 1) := by decide +kernel
theorem dX7_makesLeast_2 : decode cX7_makesLeast 2 = .ok (.iconst 0, 1) := by decide +kernel
theorem dX7_makesLeast_3 : decode cX7_makesLeast 3 = .ok (.istore 4, 2) := by decide +kernel
theorem dX7_makesLeast_5 : decode cX7_makesLeast 5 = .ok (.iload 4, 2) := by decide +kernel
theorem dX7_makesLeast_7 : decode cX7_makesLeast 7 = .ok (.bipush 10, 2) := by decide +kernel
theorem dX7_makesLeast_9 : decode cX7_makesLeast 9 = .ok (.if_icmp .ge 20, 3) := by decide +kernel
theorem dX7_makesLeast_12 : decode cX7_makesLeast 12 = .ok (.lload_n 2, 1) := by decide +kernel
theorem dX7_makesLeast_13 : decode cX7_makesLeast 13 = .ok (.aload_n 0, 1) := by decide +kernel
theorem dX7_makesLeast_14 : decode cX7_makesLeast 14 = .ok (.iload_n 1, 1) := by decide +kernel
theorem dX7_makesLeast_15 : decode cX7_makesLeast 15 = .ok (.iload 4, 2) := by decide +kernel
theorem dX7_makesLeast_17 : decode cX7_makesLeast 17 = .ok (.iadd, 1) := by decide +kernel
theorem dX7_makesLeast_18 : decode cX7_makesLeast 18 = .ok (.laload, 1) := by decide +kernel
theorem dX7_makesLeast_19 : decode cX7_makesLeast 19 = .ok (.invokestatic 118, 3) := by decide +kernel
theorem dX7_makesLeast_22 : decode cX7_makesLeast 22 = .ok (.lstore_n 2, 1) := by decide +kernel
theorem dX7_makesLeast_23 : decode cX7_makesLeast 23 = .ok (.iinc 4 1, 3) := by decide +kernel
theorem dX7_makesLeast_26 : decode cX7_makesLeast 26 = .ok (.goto (-21), 3) := by decide +kernel
theorem dX7_makesLeast_29 : decode cX7_makesLeast 29 = .ok (.iconst 0, 1) := by decide +kernel
theorem dX7_makesLeast_30 : decode cX7_makesLeast 30 = .ok (.istore 4, 2) := by decide +kernel
theorem dX7_makesLeast_32 : decode cX7_makesLeast 32 = .ok (.iload 4, 2) := by decide +kernel
theorem dX7_makesLeast_34 : decode cX7_makesLeast 34 = .ok (.bipush 10, 2) := by decide +kernel
theorem dX7_makesLeast_36 : decode cX7_makesLeast 36 = .ok (.if_icmp .ge 25, 3) := by decide +kernel
theorem dX7_makesLeast_39 : decode cX7_makesLeast 39 = .ok (.lload_n 2, 1) := by decide +kernel
theorem dX7_makesLeast_40 : decode cX7_makesLeast 40 = .ok (.lconst 1, 1) := by decide +kernel
theorem dX7_makesLeast_41 : decode cX7_makesLeast 41 = .ok (.lcmp, 1) := by decide +kernel
theorem dX7_makesLeast_42 : decode cX7_makesLeast 42 = .ok (.ifCond .le 19, 3) := by decide +kernel
theorem dX7_makesLeast_45 : decode cX7_makesLeast 45 = .ok (.aload_n 0, 1) := by decide +kernel
theorem dX7_makesLeast_46 : decode cX7_makesLeast 46 = .ok (.iload_n 1, 1) := by decide +kernel
theorem dX7_makesLeast_47 : decode cX7_makesLeast 47 = .ok (.iload 4, 2) := by decide +kernel
theorem dX7_makesLeast_49 : decode cX7_makesLeast 49 = .ok (.iadd, 1) := by decide +kernel
theorem dX7_makesLeast_50 : decode cX7_makesLeast 50 = .ok (.dup2, 1) := by decide +kernel
theorem dX7_makesLeast_51 : decode cX7_makesLeast 51 = .ok (.laload, 1) := by decide +kernel
theorem dX7_makesLeast_52 : decode cX7_makesLeast 52 = .ok (.lload_n 2, 1) := by decide +kernel
theorem dX7_makesLeast_53 : decode cX7_makesLeast 53 = .ok (.ldiv, 1) := by decide +kernel
theorem dX7_makesLeast_54 : decode cX7_makesLeast 54 = .ok (.lastore, 1) := by decide +kernel
theorem dX7_makesLeast_55 : decode cX7_makesLeast 55 = .ok (.iinc 4 1, 3) := by decide +kernel
theorem dX7_makesLeast_58 : decode cX7_makesLeast 58 = .ok (.goto (-26), 3) := by decide +kernel
theorem dX7_makesLeast_61 : decode cX7_makesLeast 61 = .ok (.return_, 1) := by decide +kernel
theorem dX7_clears_0 : decode cX7_clears 0 = .ok (.aload_n 0, 1) := by decide +kernel
theorem dX7_clears_1 : decode cX7_clears 1 = .ok (.iload_n 1, 1) := by decide +kernel
theorem dX7_clears_2 : decode cX7_clears 2 = .ok (.iload 4, 2) := by decide +kernel
theorem dX7_clears_4 : decode cX7_clears 4 = .ok (.iadd, 1) := by decide +kernel
theorem dX7_clears_5 : decode cX7_clears 5 = .ok (.laload, 1) := by decide +kernel
theorem dX7_clears_6 : decode cX7_clears 6 = .ok (.lconst 0, 1) := by decide +kernel
theorem dX7_clears_7 : decode cX7_clears 7 = .ok (.lcmp, 1) := by decide +kernel
theorem dX7_clears_8 : decode cX7_clears 8 = .ok (.ifCond .ne 4, 3) := by decide +kernel
theorem dX7_clears_11 : decode cX7_clears 11 = .ok (.return_, 1) := by decide +kernel
theorem dX7_clears_12 : decode cX7_clears 12 = .ok (.aload_n 0, 1) := by decide +kernel
theorem dX7_clears_13 : decode cX7_clears 13 = .ok (.iload_n 1, 1) := by decide +kernel
theorem dX7_clears_14 : decode cX7_clears 14 = .ok (.iload 4, 2) := by decide +kernel
theorem dX7_clears_16 : decode cX7_clears 16 = .ok (.iadd, 1) := by decide +kernel
theorem dX7_clears_17 : decode cX7_clears 17 = .ok (.laload, 1) := by decide +kernel
theorem dX7_clears_18 : decode cX7_clears 18 = .ok (.aload_n 2, 1) := by decide +kernel
theorem dX7_clears_19 : decode cX7_clears 19 = .ok (.iload_n 3, 1) := by decide +kernel
theorem dX7_clears_20 : decode cX7_clears 20 = .ok (.iload 4, 2) := by decide +kernel
theorem dX7_clears_22 : decode cX7_clears 22 = .ok (.iadd, 1) := by decide +kernel
theorem dX7_clears_23 : decode cX7_clears 23 = .ok (.laload, 1) := by decide +kernel
theorem dX7_clears_24 : decode cX7_clears 24 = .ok (.invokestatic 118, 3) := by decide +kernel
theorem dX7_clears_27 : decode cX7_clears 27 = .ok (.lstore 5, 2) := by decide +kernel
theorem dX7_clears_29 : decode cX7_clears 29 = .ok (.aload_n 2, 1) := by decide +kernel
theorem dX7_clears_30 : decode cX7_clears 30 = .ok (.iload_n 3, 1) := by decide +kernel
theorem dX7_clears_31 : decode cX7_clears 31 = .ok (.iload 4, 2) := by decide +kernel
theorem dX7_clears_33 : decode cX7_clears 33 = .ok (.iadd, 1) := by decide +kernel
theorem dX7_clears_34 : decode cX7_clears 34 = .ok (.laload, 1) := by decide +kernel
theorem dX7_clears_35 : decode cX7_clears 35 = .ok (.lload 5, 2) := by decide +kernel
theorem dX7_clears_37 : decode cX7_clears 37 = .ok (.ldiv, 1) := by decide +kernel
theorem dX7_clears_38 : decode cX7_clears 38 = .ok (.lstore 7, 2) := by decide +kernel
theorem dX7_clears_40 : decode cX7_clears 40 = .ok (.aload_n 0, 1) := by decide +kernel
theorem dX7_clears_41 : decode cX7_clears 41 = .ok (.iload_n 1, 1) := by decide +kernel
theorem dX7_clears_42 : decode cX7_clears 42 = .ok (.iload 4, 2) := by decide +kernel
theorem dX7_clears_44 : decode cX7_clears 44 = .ok (.iadd, 1) := by decide +kernel
theorem dX7_clears_45 : decode cX7_clears 45 = .ok (.laload, 1) := by decide +kernel
theorem dX7_clears_46 : decode cX7_clears 46 = .ok (.lload 5, 2) := by decide +kernel
theorem dX7_clears_48 : decode cX7_clears 48 = .ok (.ldiv, 1) := by decide +kernel
theorem dX7_clears_49 : decode cX7_clears 49 = .ok (.lstore 9, 2) := by decide +kernel
theorem dX7_clears_51 : decode cX7_clears 51 = .ok (.iconst 0, 1) := by decide +kernel
theorem dX7_clears_52 : decode cX7_clears 52 = .ok (.istore 11, 2) := by decide +kernel
theorem dX7_clears_54 : decode cX7_clears 54 = .ok (.iload 11, 2) := by decide +kernel
theorem dX7_clears_56 : decode cX7_clears 56 = .ok (.bipush 10, 2) := by decide +kernel
theorem dX7_clears_58 : decode cX7_clears 58 = .ok (.if_icmp .ge 34, 3) := by decide +kernel
theorem dX7_clears_61 : decode cX7_clears 61 = .ok (.aload_n 0, 1) := by decide +kernel
theorem dX7_clears_62 : decode cX7_clears 62 = .ok (.iload_n 1, 1) := by decide +kernel
theorem dX7_clears_63 : decode cX7_clears 63 = .ok (.iload 11, 2) := by decide +kernel
theorem dX7_clears_65 : decode cX7_clears 65 = .ok (.iadd, 1) := by decide +kernel
theorem dX7_clears_66 : decode cX7_clears 66 = .ok (.aload_n 0, 1) := by decide +kernel
theorem dX7_clears_67 : decode cX7_clears 67 = .ok (.iload_n 1, 1) := by decide +kernel
theorem dX7_clears_68 : decode cX7_clears 68 = .ok (.iload 11, 2) := by decide +kernel
theorem dX7_clears_70 : decode cX7_clears 70 = .ok (.iadd, 1) := by decide +kernel
theorem dX7_clears_71 : decode cX7_clears 71 = .ok (.laload, 1) := by decide +kernel
theorem dX7_clears_72 : decode cX7_clears 72 = .ok (.lload 7, 2) := by decide +kernel
theorem dX7_clears_74 : decode cX7_clears 74 = .ok (.lmul, 1) := by decide +kernel
theorem dX7_clears_75 : decode cX7_clears 75 = .ok (.aload_n 2, 1) := by decide +kernel
theorem dX7_clears_76 : decode cX7_clears 76 = .ok (.iload_n 3, 1) := by decide +kernel
theorem dX7_clears_77 : decode cX7_clears 77 = .ok (.iload 11, 2) := by decide +kernel
theorem dX7_clears_79 : decode cX7_clears 79 = .ok (.iadd, 1) := by decide +kernel
theorem dX7_clears_80 : decode cX7_clears 80 = .ok (.laload, 1) := by decide +kernel
theorem dX7_clears_81 : decode cX7_clears 81 = .ok (.lload 9, 2) := by decide +kernel
theorem dX7_clears_83 : decode cX7_clears 83 = .ok (.lmul, 1) := by decide +kernel
theorem dX7_clears_84 : decode cX7_clears 84 = .ok (.lsub, 1) := by decide +kernel
theorem dX7_clears_85 : decode cX7_clears 85 = .ok (.lastore, 1) := by decide +kernel
theorem dX7_clears_86 : decode cX7_clears 86 = .ok (.iinc 11 1, 3) := by decide +kernel
theorem dX7_clears_89 : decode cX7_clears 89 = .ok (.goto (-35), 3) := by decide +kernel
theorem dX7_clears_92 : decode cX7_clears 92 = .ok (.aload_n 0, 1) := by decide +kernel
theorem dX7_clears_93 : decode cX7_clears 93 = .ok (.iload_n 1, 1) := by decide +kernel
theorem dX7_clears_94 : decode cX7_clears 94 = .ok (.invokestatic 122, 3) := by decide +kernel
theorem dX7_clears_97 : decode cX7_clears 97 = .ok (.return_, 1) := by decide +kernel
theorem dX7_loads_0 : decode cX7_loads 0 = .ok (.iconst 0, 1) := by decide +kernel
theorem dX7_loads_1 : decode cX7_loads 1 = .ok (.istore_n 1, 1) := by decide +kernel
theorem dX7_loads_2 : decode cX7_loads 2 = .ok (.iload_n 1, 1) := by decide +kernel
theorem dX7_loads_3 : decode cX7_loads 3 = .ok (.bipush 110, 2) := by decide +kernel
theorem dX7_loads_5 : decode cX7_loads 5 = .ok (.if_icmp .ge 21, 3) := by decide +kernel
theorem dX7_loads_8 : decode cX7_loads 8 = .ok (.aload_n 0, 1) := by decide +kernel
theorem dX7_loads_9 : decode cX7_loads 9 = .ok (.getfield 38, 3) := by decide +kernel
theorem dX7_loads_12 : decode cX7_loads 12 = .ok (.iload_n 1, 1) := by decide +kernel
theorem dX7_loads_13 : decode cX7_loads 13 = .ok (.aload_n 0, 1) := by decide +kernel
theorem dX7_loads_14 : decode cX7_loads 14 = .ok (.getfield 34, 3) := by decide +kernel
theorem dX7_loads_17 : decode cX7_loads 17 = .ok (.iload_n 1, 1) := by decide +kernel
theorem dX7_loads_18 : decode cX7_loads 18 = .ok (.laload, 1) := by decide +kernel
theorem dX7_loads_19 : decode cX7_loads 19 = .ok (.lastore, 1) := by decide +kernel
theorem dX7_loads_20 : decode cX7_loads 20 = .ok (.iinc 1 1, 3) := by decide +kernel
theorem dX7_loads_23 : decode cX7_loads 23 = .ok (.goto (-21), 3) := by decide +kernel
theorem dX7_loads_26 : decode cX7_loads 26 = .ok (.iconst 0, 1) := by decide +kernel
theorem dX7_loads_27 : decode cX7_loads 27 = .ok (.istore_n 1, 1) := by decide +kernel
theorem dX7_loads_28 : decode cX7_loads 28 = .ok (.iload_n 1, 1) := by decide +kernel
theorem dX7_loads_29 : decode cX7_loads 29 = .ok (.bipush 11, 2) := by decide +kernel
theorem dX7_loads_31 : decode cX7_loads 31 = .ok (.if_icmp .ge 21, 3) := by decide +kernel
theorem dX7_loads_34 : decode cX7_loads 34 = .ok (.aload_n 0, 1) := by decide +kernel
theorem dX7_loads_35 : decode cX7_loads 35 = .ok (.getfield 47, 3) := by decide +kernel
theorem dX7_loads_38 : decode cX7_loads 38 = .ok (.iload_n 1, 1) := by decide +kernel
theorem dX7_loads_39 : decode cX7_loads 39 = .ok (.aload_n 0, 1) := by decide +kernel
theorem dX7_loads_40 : decode cX7_loads 40 = .ok (.getfield 44, 3) := by decide +kernel
theorem dX7_loads_43 : decode cX7_loads 43 = .ok (.iload_n 1, 1) := by decide +kernel
theorem dX7_loads_44 : decode cX7_loads 44 = .ok (.iaload, 1) := by decide +kernel
theorem dX7_loads_45 : decode cX7_loads 45 = .ok (.iastore, 1) := by decide +kernel
theorem dX7_loads_46 : decode cX7_loads 46 = .ok (.iinc 1 1, 3) := by decide +kernel
theorem dX7_loads_49 : decode cX7_loads 49 = .ok (.goto (-21), 3) := by decide +kernel
theorem dX7_loads_52 : decode cX7_loads 52 = .ok (.aload_n 0, 1) := by decide +kernel
theorem dX7_loads_53 : decode cX7_loads 53 = .ok (.aload_n 0, 1) := by decide +kernel
theorem dX7_loads_54 : decode cX7_loads 54 = .ok (.getfield 126, 3) := by decide +kernel
theorem dX7_loads_57 : decode cX7_loads 57 = .ok (.putfield 129, 3) := by decide +kernel
theorem dX7_loads_60 : decode cX7_loads 60 = .ok (.return_, 1) := by decide +kernel
theorem dX7_reduces_0 : decode cX7_reduces 0 = .ok (.iconst 0, 1) := by decide +kernel
theorem dX7_reduces_1 : decode cX7_reduces 1 = .ok (.istore_n 3, 1) := by decide +kernel
theorem dX7_reduces_2 : decode cX7_reduces 2 = .ok (.iload_n 3, 1) := by decide +kernel
theorem dX7_reduces_3 : decode cX7_reduces 3 = .ok (.bipush 10, 2) := by decide +kernel
theorem dX7_reduces_5 : decode cX7_reduces 5 = .ok (.if_icmp .ge 21, 3) := by decide +kernel
theorem dX7_reduces_8 : decode cX7_reduces 8 = .ok (.aload_n 0, 1) := by decide +kernel
theorem dX7_reduces_9 : decode cX7_reduces 9 = .ok (.getfield 41, 3) := by decide +kernel
theorem dX7_reduces_12 : decode cX7_reduces 12 = .ok (.iload_n 3, 1) := by decide +kernel
theorem dX7_reduces_13 : decode cX7_reduces 13 = .ok (.aload_n 1, 1) := by decide +kernel
theorem dX7_reduces_14 : decode cX7_reduces 14 = .ok (.iload_n 2, 1) := by decide +kernel
theorem dX7_reduces_15 : decode cX7_reduces 15 = .ok (.iload_n 3, 1) := by decide +kernel
theorem dX7_reduces_16 : decode cX7_reduces 16 = .ok (.iadd, 1) := by decide +kernel
theorem dX7_reduces_17 : decode cX7_reduces 17 = .ok (.iaload, 1) := by decide +kernel
theorem dX7_reduces_18 : decode cX7_reduces 18 = .ok (.i2l, 1) := by decide +kernel
theorem dX7_reduces_19 : decode cX7_reduces 19 = .ok (.lastore, 1) := by decide +kernel
theorem dX7_reduces_20 : decode cX7_reduces 20 = .ok (.iinc 3 1, 3) := by decide +kernel
theorem dX7_reduces_23 : decode cX7_reduces 23 = .ok (.goto (-21), 3) := by decide +kernel
theorem dX7_reduces_26 : decode cX7_reduces 26 = .ok (.iconst 0, 1) := by decide +kernel
theorem dX7_reduces_27 : decode cX7_reduces 27 = .ok (.istore_n 3, 1) := by decide +kernel
theorem dX7_reduces_28 : decode cX7_reduces 28 = .ok (.iload_n 3, 1) := by decide +kernel
theorem dX7_reduces_29 : decode cX7_reduces 29 = .ok (.aload_n 0, 1) := by decide +kernel
theorem dX7_reduces_30 : decode cX7_reduces 30 = .ok (.getfield 129, 3) := by decide +kernel
theorem dX7_reduces_33 : decode cX7_reduces 33 = .ok (.if_icmp .ge 31, 3) := by decide +kernel
theorem dX7_reduces_36 : decode cX7_reduces 36 = .ok (.aload_n 0, 1) := by decide +kernel
theorem dX7_reduces_37 : decode cX7_reduces 37 = .ok (.getfield 41, 3) := by decide +kernel
theorem dX7_reduces_40 : decode cX7_reduces 40 = .ok (.iconst 0, 1) := by decide +kernel
theorem dX7_reduces_41 : decode cX7_reduces 41 = .ok (.aload_n 0, 1) := by decide +kernel
theorem dX7_reduces_42 : decode cX7_reduces 42 = .ok (.getfield 38, 3) := by decide +kernel
theorem dX7_reduces_45 : decode cX7_reduces 45 = .ok (.bipush 10, 2) := by decide +kernel
theorem dX7_reduces_47 : decode cX7_reduces 47 = .ok (.iload_n 3, 1) := by decide +kernel
theorem dX7_reduces_48 : decode cX7_reduces 48 = .ok (.imul, 1) := by decide +kernel
theorem dX7_reduces_49 : decode cX7_reduces 49 = .ok (.aload_n 0, 1) := by decide +kernel
theorem dX7_reduces_50 : decode cX7_reduces 50 = .ok (.getfield 47, 3) := by decide +kernel
theorem dX7_reduces_53 : decode cX7_reduces 53 = .ok (.iload_n 3, 1) := by decide +kernel
theorem dX7_reduces_54 : decode cX7_reduces 54 = .ok (.iaload, 1) := by decide +kernel
theorem dX7_reduces_55 : decode cX7_reduces 55 = .ok (.invokestatic 132, 3) := by decide +kernel
theorem dX7_reduces_58 : decode cX7_reduces 58 = .ok (.iinc 3 1, 3) := by decide +kernel
theorem dX7_reduces_61 : decode cX7_reduces 61 = .ok (.goto (-33), 3) := by decide +kernel
theorem dX7_reduces_64 : decode cX7_reduces 64 = .ok (.return_, 1) := by decide +kernel
theorem dX7_firstOfOne_0 : decode cX7_firstOfOne 0 = .ok (.iconst 0, 1) := by decide +kernel
theorem dX7_firstOfOne_1 : decode cX7_firstOfOne 1 = .ok (.istore_n 1, 1) := by decide +kernel
theorem dX7_firstOfOne_2 : decode cX7_firstOfOne 2 = .ok (.iload_n 1, 1) := by decide +kernel
theorem dX7_firstOfOne_3 : decode cX7_firstOfOne 3 = .ok (.bipush 10, 2) := by decide +kernel
theorem dX7_firstOfOne_5 : decode cX7_firstOfOne 5 = .ok (.if_icmp .ge 22, 3) := by decide +kernel
theorem dX7_firstOfOne_8 : decode cX7_firstOfOne 8 = .ok (.aload_n 0, 1) := by decide +kernel
theorem dX7_firstOfOne_9 : decode cX7_firstOfOne 9 = .ok (.getfield 41, 3) := by decide +kernel
theorem dX7_firstOfOne_12 : decode cX7_firstOfOne 12 = .ok (.iload_n 1, 1) := by decide +kernel
theorem dX7_firstOfOne_13 : decode cX7_firstOfOne 13 = .ok (.laload, 1) := by decide +kernel
theorem dX7_firstOfOne_14 : decode cX7_firstOfOne 14 = .ok (.lconst 0, 1) := by decide +kernel
theorem dX7_firstOfOne_15 : decode cX7_firstOfOne 15 = .ok (.lcmp, 1) := by decide +kernel
theorem dX7_firstOfOne_16 : decode cX7_firstOfOne 16 = .ok (.ifCond .eq 5, 3) := by decide +kernel
theorem dX7_firstOfOne_19 : decode cX7_firstOfOne 19 = .ok (.iload_n 1, 1) := by decide +kernel
theorem dX7_firstOfOne_20 : decode cX7_firstOfOne 20 = .ok (.ireturn, 1) := by decide +kernel
theorem dX7_firstOfOne_21 : decode cX7_firstOfOne 21 = .ok (.iinc 1 1, 3) := by decide +kernel
theorem dX7_firstOfOne_24 : decode cX7_firstOfOne 24 = .ok (.goto (-22), 3) := by decide +kernel
theorem dX7_firstOfOne_27 : decode cX7_firstOfOne 27 = .ok (.bipush (-9), 2) := by decide +kernel
theorem dX7_firstOfOne_29 : decode cX7_firstOfOne 29 = .ok (.ireturn, 1) := by decide +kernel
theorem dX7_adds_0 : decode cX7_adds 0 = .ok (.aload_n 0, 1) := by decide +kernel
theorem dX7_adds_1 : decode cX7_adds 1 = .ok (.aload_n 1, 1) := by decide +kernel
theorem dX7_adds_2 : decode cX7_adds 2 = .ok (.iload_n 2, 1) := by decide +kernel
theorem dX7_adds_3 : decode cX7_adds 3 = .ok (.invokevirtual 136, 3) := by decide +kernel
theorem dX7_adds_6 : decode cX7_adds 6 = .ok (.aload_n 0, 1) := by decide +kernel
theorem dX7_adds_7 : decode cX7_adds 7 = .ok (.invokevirtual 140, 3) := by decide +kernel
theorem dX7_adds_10 : decode cX7_adds 10 = .ok (.istore_n 3, 1) := by decide +kernel
theorem dX7_adds_11 : decode cX7_adds 11 = .ok (.iload_n 3, 1) := by decide +kernel
theorem dX7_adds_12 : decode cX7_adds 12 = .ok (.ifCond .ge 4, 3) := by decide +kernel
theorem dX7_adds_15 : decode cX7_adds 15 = .ok (.return_, 1) := by decide +kernel
theorem dX7_adds_16 : decode cX7_adds 16 = .ok (.aload_n 0, 1) := by decide +kernel
theorem dX7_adds_17 : decode cX7_adds 17 = .ok (.getfield 41, 3) := by decide +kernel
theorem dX7_adds_20 : decode cX7_adds 20 = .ok (.iload_n 3, 1) := by decide +kernel
theorem dX7_adds_21 : decode cX7_adds 21 = .ok (.laload, 1) := by decide +kernel
theorem dX7_adds_22 : decode cX7_adds 22 = .ok (.lconst 0, 1) := by decide +kernel
theorem dX7_adds_23 : decode cX7_adds 23 = .ok (.lcmp, 1) := by decide +kernel
theorem dX7_adds_24 : decode cX7_adds 24 = .ok (.ifCond .ge 9, 3) := by decide +kernel
theorem dX7_adds_27 : decode cX7_adds 27 = .ok (.ldc2_w 144, 3) := by decide +kernel
theorem dX7_adds_30 : decode cX7_adds 30 = .ok (.goto 4, 3) := by decide +kernel
theorem dX7_adds_33 : decode cX7_adds 33 = .ok (.lconst 1, 1) := by decide +kernel
theorem dX7_adds_34 : decode cX7_adds 34 = .ok (.lstore 4, 2) := by decide +kernel
theorem dX7_adds_36 : decode cX7_adds 36 = .ok (.iconst 0, 1) := by decide +kernel
theorem dX7_adds_37 : decode cX7_adds 37 = .ok (.istore 6, 2) := by decide +kernel
theorem dX7_adds_39 : decode cX7_adds 39 = .ok (.iload 6, 2) := by decide +kernel
theorem dX7_adds_41 : decode cX7_adds 41 = .ok (.bipush 10, 2) := by decide +kernel
theorem dX7_adds_43 : decode cX7_adds 43 = .ok (.if_icmp .ge 21, 3) := by decide +kernel
theorem dX7_adds_46 : decode cX7_adds 46 = .ok (.aload_n 0, 1) := by decide +kernel
theorem dX7_adds_47 : decode cX7_adds 47 = .ok (.getfield 41, 3) := by decide +kernel
theorem dX7_adds_50 : decode cX7_adds 50 = .ok (.iload 6, 2) := by decide +kernel
theorem dX7_adds_52 : decode cX7_adds 52 = .ok (.dup2, 1) := by decide +kernel
theorem dX7_adds_53 : decode cX7_adds 53 = .ok (.laload, 1) := by decide +kernel
theorem dX7_adds_54 : decode cX7_adds 54 = .ok (.lload 4, 2) := by decide +kernel
theorem dX7_adds_56 : decode cX7_adds 56 = .ok (.lmul, 1) := by decide +kernel
theorem dX7_adds_57 : decode cX7_adds 57 = .ok (.lastore, 1) := by decide +kernel
theorem dX7_adds_58 : decode cX7_adds 58 = .ok (.iinc 6 1, 3) := by decide +kernel
theorem dX7_adds_61 : decode cX7_adds 61 = .ok (.goto (-22), 3) := by decide +kernel
theorem dX7_adds_64 : decode cX7_adds 64 = .ok (.aload_n 0, 1) := by decide +kernel
theorem dX7_adds_65 : decode cX7_adds 65 = .ok (.getfield 41, 3) := by decide +kernel
theorem dX7_adds_68 : decode cX7_adds 68 = .ok (.iconst 0, 1) := by decide +kernel
theorem dX7_adds_69 : decode cX7_adds 69 = .ok (.invokestatic 122, 3) := by decide +kernel
theorem dX7_adds_72 : decode cX7_adds 72 = .ok (.iconst 0, 1) := by decide +kernel
theorem dX7_adds_73 : decode cX7_adds 73 = .ok (.istore 6, 2) := by decide +kernel
theorem dX7_adds_75 : decode cX7_adds 75 = .ok (.iload 6, 2) := by decide +kernel
theorem dX7_adds_77 : decode cX7_adds 77 = .ok (.aload_n 0, 1) := by decide +kernel
theorem dX7_adds_78 : decode cX7_adds 78 = .ok (.getfield 129, 3) := by decide +kernel
theorem dX7_adds_81 : decode cX7_adds 81 = .ok (.if_icmp .ge 27, 3) := by decide +kernel
theorem dX7_adds_84 : decode cX7_adds 84 = .ok (.aload_n 0, 1) := by decide +kernel
theorem dX7_adds_85 : decode cX7_adds 85 = .ok (.getfield 38, 3) := by decide +kernel
theorem dX7_adds_88 : decode cX7_adds 88 = .ok (.bipush 10, 2) := by decide +kernel
theorem dX7_adds_90 : decode cX7_adds 90 = .ok (.iload 6, 2) := by decide +kernel
theorem dX7_adds_92 : decode cX7_adds 92 = .ok (.imul, 1) := by decide +kernel
theorem dX7_adds_93 : decode cX7_adds 93 = .ok (.aload_n 0, 1) := by decide +kernel
theorem dX7_adds_94 : decode cX7_adds 94 = .ok (.getfield 41, 3) := by decide +kernel
theorem dX7_adds_97 : decode cX7_adds 97 = .ok (.iconst 0, 1) := by decide +kernel
theorem dX7_adds_98 : decode cX7_adds 98 = .ok (.iload_n 3, 1) := by decide +kernel
theorem dX7_adds_99 : decode cX7_adds 99 = .ok (.invokestatic 132, 3) := by decide +kernel
theorem dX7_adds_102 : decode cX7_adds 102 = .ok (.iinc 6 1, 3) := by decide +kernel
theorem dX7_adds_105 : decode cX7_adds 105 = .ok (.goto (-30), 3) := by decide +kernel
theorem dX7_adds_108 : decode cX7_adds 108 = .ok (.iconst 0, 1) := by decide +kernel
theorem dX7_adds_109 : decode cX7_adds 109 = .ok (.istore 6, 2) := by decide +kernel
theorem dX7_adds_111 : decode cX7_adds 111 = .ok (.iload 6, 2) := by decide +kernel
theorem dX7_adds_113 : decode cX7_adds 113 = .ok (.bipush 10, 2) := by decide +kernel
theorem dX7_adds_115 : decode cX7_adds 115 = .ok (.if_icmp .ge 31, 3) := by decide +kernel
theorem dX7_adds_118 : decode cX7_adds 118 = .ok (.aload_n 0, 1) := by decide +kernel
theorem dX7_adds_119 : decode cX7_adds 119 = .ok (.getfield 38, 3) := by decide +kernel
theorem dX7_adds_122 : decode cX7_adds 122 = .ok (.bipush 10, 2) := by decide +kernel
theorem dX7_adds_124 : decode cX7_adds 124 = .ok (.aload_n 0, 1) := by decide +kernel
theorem dX7_adds_125 : decode cX7_adds 125 = .ok (.getfield 129, 3) := by decide +kernel
theorem dX7_adds_128 : decode cX7_adds 128 = .ok (.imul, 1) := by decide +kernel
theorem dX7_adds_129 : decode cX7_adds 129 = .ok (.iload 6, 2) := by decide +kernel
theorem dX7_adds_131 : decode cX7_adds 131 = .ok (.iadd, 1) := by decide +kernel
theorem dX7_adds_132 : decode cX7_adds 132 = .ok (.aload_n 0, 1) := by decide +kernel
theorem dX7_adds_133 : decode cX7_adds 133 = .ok (.getfield 41, 3) := by decide +kernel
theorem dX7_adds_136 : decode cX7_adds 136 = .ok (.iload 6, 2) := by decide +kernel
theorem dX7_adds_138 : decode cX7_adds 138 = .ok (.laload, 1) := by decide +kernel
theorem dX7_adds_139 : decode cX7_adds 139 = .ok (.lastore, 1) := by decide +kernel
theorem dX7_adds_140 : decode cX7_adds 140 = .ok (.iinc 6 1, 3) := by decide +kernel
theorem dX7_adds_143 : decode cX7_adds 143 = .ok (.goto (-32), 3) := by decide +kernel
theorem dX7_adds_146 : decode cX7_adds 146 = .ok (.aload_n 0, 1) := by decide +kernel
theorem dX7_adds_147 : decode cX7_adds 147 = .ok (.getfield 47, 3) := by decide +kernel
theorem dX7_adds_150 : decode cX7_adds 150 = .ok (.aload_n 0, 1) := by decide +kernel
theorem dX7_adds_151 : decode cX7_adds 151 = .ok (.getfield 129, 3) := by decide +kernel
theorem dX7_adds_154 : decode cX7_adds 154 = .ok (.iload_n 3, 1) := by decide +kernel
theorem dX7_adds_155 : decode cX7_adds 155 = .ok (.iastore, 1) := by decide +kernel
theorem dX7_adds_156 : decode cX7_adds 156 = .ok (.aload_n 0, 1) := by decide +kernel
theorem dX7_adds_157 : decode cX7_adds 157 = .ok (.dup, 1) := by decide +kernel
theorem dX7_adds_158 : decode cX7_adds 158 = .ok (.getfield 129, 3) := by decide +kernel
theorem dX7_adds_161 : decode cX7_adds 161 = .ok (.iconst 1, 1) := by decide +kernel
theorem dX7_adds_162 : decode cX7_adds 162 = .ok (.iadd, 1) := by decide +kernel
theorem dX7_adds_163 : decode cX7_adds 163 = .ok (.putfield 129, 3) := by decide +kernel
theorem dX7_adds_166 : decode cX7_adds 166 = .ok (.return_, 1) := by decide +kernel
theorem dX7_builds_0 : decode cX7_builds 0 = .ok (.aload_n 0, 1) := by decide +kernel
theorem dX7_builds_1 : decode cX7_builds 1 = .ok (.iconst 0, 1) := by decide +kernel
theorem dX7_builds_2 : decode cX7_builds 2 = .ok (.putfield 129, 3) := by decide +kernel
theorem dX7_builds_5 : decode cX7_builds 5 = .ok (.iconst 0, 1) := by decide +kernel
theorem dX7_builds_6 : decode cX7_builds 6 = .ok (.istore_n 1, 1) := by decide +kernel
theorem dX7_builds_7 : decode cX7_builds 7 = .ok (.iload_n 1, 1) := by decide +kernel
theorem dX7_builds_8 : decode cX7_builds 8 = .ok (.aload_n 0, 1) := by decide +kernel
theorem dX7_builds_9 : decode cX7_builds 9 = .ok (.getfield 100, 3) := by decide +kernel
theorem dX7_builds_12 : decode cX7_builds 12 = .ok (.if_icmp .ge 21, 3) := by decide +kernel
theorem dX7_builds_15 : decode cX7_builds 15 = .ok (.aload_n 0, 1) := by decide +kernel
theorem dX7_builds_16 : decode cX7_builds 16 = .ok (.aload_n 0, 1) := by decide +kernel
theorem dX7_builds_17 : decode cX7_builds 17 = .ok (.getfield 25, 3) := by decide +kernel
theorem dX7_builds_20 : decode cX7_builds 20 = .ok (.bipush 10, 2) := by decide +kernel
theorem dX7_builds_22 : decode cX7_builds 22 = .ok (.iload_n 1, 1) := by decide +kernel
theorem dX7_builds_23 : decode cX7_builds 23 = .ok (.imul, 1) := by decide +kernel
theorem dX7_builds_24 : decode cX7_builds 24 = .ok (.invokevirtual 146, 3) := by decide +kernel
theorem dX7_builds_27 : decode cX7_builds 27 = .ok (.iinc 1 1, 3) := by decide +kernel
theorem dX7_builds_30 : decode cX7_builds 30 = .ok (.goto (-23), 3) := by decide +kernel
theorem dX7_builds_33 : decode cX7_builds 33 = .ok (.iconst 0, 1) := by decide +kernel
theorem dX7_builds_34 : decode cX7_builds 34 = .ok (.istore_n 1, 1) := by decide +kernel
theorem dX7_builds_35 : decode cX7_builds 35 = .ok (.iload_n 1, 1) := by decide +kernel
theorem dX7_builds_36 : decode cX7_builds 36 = .ok (.bipush 110, 2) := by decide +kernel
theorem dX7_builds_38 : decode cX7_builds 38 = .ok (.if_icmp .ge 21, 3) := by decide +kernel
theorem dX7_builds_41 : decode cX7_builds 41 = .ok (.aload_n 0, 1) := by decide +kernel
theorem dX7_builds_42 : decode cX7_builds 42 = .ok (.getfield 34, 3) := by decide +kernel
theorem dX7_builds_45 : decode cX7_builds 45 = .ok (.iload_n 1, 1) := by decide +kernel
theorem dX7_builds_46 : decode cX7_builds 46 = .ok (.aload_n 0, 1) := by decide +kernel
theorem dX7_builds_47 : decode cX7_builds 47 = .ok (.getfield 38, 3) := by decide +kernel
theorem dX7_builds_50 : decode cX7_builds 50 = .ok (.iload_n 1, 1) := by decide +kernel
theorem dX7_builds_51 : decode cX7_builds 51 = .ok (.laload, 1) := by decide +kernel
theorem dX7_builds_52 : decode cX7_builds 52 = .ok (.lastore, 1) := by decide +kernel
theorem dX7_builds_53 : decode cX7_builds 53 = .ok (.iinc 1 1, 3) := by decide +kernel
theorem dX7_builds_56 : decode cX7_builds 56 = .ok (.goto (-21), 3) := by decide +kernel
theorem dX7_builds_59 : decode cX7_builds 59 = .ok (.iconst 0, 1) := by decide +kernel
theorem dX7_builds_60 : decode cX7_builds 60 = .ok (.istore_n 1, 1) := by decide +kernel
theorem dX7_builds_61 : decode cX7_builds 61 = .ok (.iload_n 1, 1) := by decide +kernel
theorem dX7_builds_62 : decode cX7_builds 62 = .ok (.bipush 11, 2) := by decide +kernel
theorem dX7_builds_64 : decode cX7_builds 64 = .ok (.if_icmp .ge 21, 3) := by decide +kernel
theorem dX7_builds_67 : decode cX7_builds 67 = .ok (.aload_n 0, 1) := by decide +kernel
theorem dX7_builds_68 : decode cX7_builds 68 = .ok (.getfield 44, 3) := by decide +kernel
theorem dX7_builds_71 : decode cX7_builds 71 = .ok (.iload_n 1, 1) := by decide +kernel
theorem dX7_builds_72 : decode cX7_builds 72 = .ok (.aload_n 0, 1) := by decide +kernel
theorem dX7_builds_73 : decode cX7_builds 73 = .ok (.getfield 47, 3) := by decide +kernel
theorem dX7_builds_76 : decode cX7_builds 76 = .ok (.iload_n 1, 1) := by decide +kernel
theorem dX7_builds_77 : decode cX7_builds 77 = .ok (.iaload, 1) := by decide +kernel
theorem dX7_builds_78 : decode cX7_builds 78 = .ok (.iastore, 1) := by decide +kernel
theorem dX7_builds_79 : decode cX7_builds 79 = .ok (.iinc 1 1, 3) := by decide +kernel
theorem dX7_builds_82 : decode cX7_builds 82 = .ok (.goto (-21), 3) := by decide +kernel
theorem dX7_builds_85 : decode cX7_builds 85 = .ok (.aload_n 0, 1) := by decide +kernel
theorem dX7_builds_86 : decode cX7_builds 86 = .ok (.aload_n 0, 1) := by decide +kernel
theorem dX7_builds_87 : decode cX7_builds 87 = .ok (.getfield 129, 3) := by decide +kernel
theorem dX7_builds_90 : decode cX7_builds 90 = .ok (.putfield 126, 3) := by decide +kernel
theorem dX7_builds_93 : decode cX7_builds 93 = .ok (.return_, 1) := by decide +kernel
theorem dX7_manyNot0_0 : decode cX7_manyNot0 0 = .ok (.iconst 0, 1) := by decide +kernel
theorem dX7_manyNot0_1 : decode cX7_manyNot0 1 = .ok (.istore_n 2, 1) := by decide +kernel
theorem dX7_manyNot0_2 : decode cX7_manyNot0 2 = .ok (.iconst 0, 1) := by decide +kernel
theorem dX7_manyNot0_3 : decode cX7_manyNot0 3 = .ok (.istore_n 3, 1) := by decide +kernel
theorem dX7_manyNot0_4 : decode cX7_manyNot0 4 = .ok (.iload_n 3, 1) := by decide +kernel
theorem dX7_manyNot0_5 : decode cX7_manyNot0 5 = .ok (.bipush 10, 2) := by decide +kernel
theorem dX7_manyNot0_7 : decode cX7_manyNot0 7 = .ok (.if_icmp .ge 33, 3) := by decide +kernel
theorem dX7_manyNot0_10 : decode cX7_manyNot0 10 = .ok (.iload_n 2, 1) := by decide +kernel
theorem dX7_manyNot0_11 : decode cX7_manyNot0 11 = .ok (.aload_n 0, 1) := by decide +kernel
theorem dX7_manyNot0_12 : decode cX7_manyNot0 12 = .ok (.getfield 38, 3) := by decide +kernel
theorem dX7_manyNot0_15 : decode cX7_manyNot0 15 = .ok (.bipush 10, 2) := by decide +kernel
theorem dX7_manyNot0_17 : decode cX7_manyNot0 17 = .ok (.iload_n 1, 1) := by decide +kernel
theorem dX7_manyNot0_18 : decode cX7_manyNot0 18 = .ok (.imul, 1) := by decide +kernel
theorem dX7_manyNot0_19 : decode cX7_manyNot0 19 = .ok (.iload_n 3, 1) := by decide +kernel
theorem dX7_manyNot0_20 : decode cX7_manyNot0 20 = .ok (.iadd, 1) := by decide +kernel
theorem dX7_manyNot0_21 : decode cX7_manyNot0 21 = .ok (.laload, 1) := by decide +kernel
theorem dX7_manyNot0_22 : decode cX7_manyNot0 22 = .ok (.lconst 0, 1) := by decide +kernel
theorem dX7_manyNot0_23 : decode cX7_manyNot0 23 = .ok (.lcmp, 1) := by decide +kernel
theorem dX7_manyNot0_24 : decode cX7_manyNot0 24 = .ok (.ifCond .eq 7, 3) := by decide +kernel
theorem dX7_manyNot0_27 : decode cX7_manyNot0 27 = .ok (.iconst 1, 1) := by decide +kernel
theorem dX7_manyNot0_28 : decode cX7_manyNot0 28 = .ok (.goto 4, 3) := by decide +kernel
theorem dX7_manyNot0_31 : decode cX7_manyNot0 31 = .ok (.iconst 0, 1) := by decide +kernel
theorem dX7_manyNot0_32 : decode cX7_manyNot0 32 = .ok (.iadd, 1) := by decide +kernel
theorem dX7_manyNot0_33 : decode cX7_manyNot0 33 = .ok (.istore_n 2, 1) := by decide +kernel
theorem dX7_manyNot0_34 : decode cX7_manyNot0 34 = .ok (.iinc 3 1, 3) := by decide +kernel
theorem dX7_manyNot0_37 : decode cX7_manyNot0 37 = .ok (.goto (-33), 3) := by decide +kernel
theorem dX7_manyNot0_40 : decode cX7_manyNot0 40 = .ok (.iload_n 2, 1) := by decide +kernel
theorem dX7_manyNot0_41 : decode cX7_manyNot0 41 = .ok (.ireturn, 1) := by decide +kernel
theorem dX7_isFixed_0 : decode cX7_isFixed 0 = .ok (.iconst 0, 1) := by decide +kernel
theorem dX7_isFixed_1 : decode cX7_isFixed 1 = .ok (.istore_n 2, 1) := by decide +kernel
theorem dX7_isFixed_2 : decode cX7_isFixed 2 = .ok (.iload_n 2, 1) := by decide +kernel
theorem dX7_isFixed_3 : decode cX7_isFixed 3 = .ok (.aload_n 0, 1) := by decide +kernel
theorem dX7_isFixed_4 : decode cX7_isFixed 4 = .ok (.getfield 129, 3) := by decide +kernel
theorem dX7_isFixed_7 : decode cX7_isFixed 7 = .ok (.if_icmp .ge 30, 3) := by decide +kernel
theorem dX7_isFixed_10 : decode cX7_isFixed 10 = .ok (.aload_n 0, 1) := by decide +kernel
theorem dX7_isFixed_11 : decode cX7_isFixed 11 = .ok (.getfield 47, 3) := by decide +kernel
theorem dX7_isFixed_14 : decode cX7_isFixed 14 = .ok (.iload_n 2, 1) := by decide +kernel
theorem dX7_isFixed_15 : decode cX7_isFixed 15 = .ok (.iaload, 1) := by decide +kernel
theorem dX7_isFixed_16 : decode cX7_isFixed 16 = .ok (.iload_n 1, 1) := by decide +kernel
theorem dX7_isFixed_17 : decode cX7_isFixed 17 = .ok (.if_icmp .ne 14, 3) := by decide +kernel
theorem dX7_isFixed_20 : decode cX7_isFixed 20 = .ok (.aload_n 0, 1) := by decide +kernel
theorem dX7_isFixed_21 : decode cX7_isFixed 21 = .ok (.iload_n 2, 1) := by decide +kernel
theorem dX7_isFixed_22 : decode cX7_isFixed 22 = .ok (.invokevirtual 149, 3) := by decide +kernel
theorem dX7_isFixed_25 : decode cX7_isFixed 25 = .ok (.iconst 1, 1) := by decide +kernel
theorem dX7_isFixed_26 : decode cX7_isFixed 26 = .ok (.if_icmp .ne 5, 3) := by decide +kernel
theorem dX7_isFixed_29 : decode cX7_isFixed 29 = .ok (.iconst 1, 1) := by decide +kernel
theorem dX7_isFixed_30 : decode cX7_isFixed 30 = .ok (.ireturn, 1) := by decide +kernel
theorem dX7_isFixed_31 : decode cX7_isFixed 31 = .ok (.iinc 2 1, 3) := by decide +kernel
theorem dX7_isFixed_34 : decode cX7_isFixed 34 = .ok (.goto (-32), 3) := by decide +kernel
theorem dX7_isFixed_37 : decode cX7_isFixed 37 = .ok (.iconst 0, 1) := by decide +kernel
theorem dX7_isFixed_38 : decode cX7_isFixed 38 = .ok (.ireturn, 1) := by decide +kernel
theorem dX7_isAnyFixed_0 : decode cX7_isAnyFixed 0 = .ok (.iconst 0, 1) := by decide +kernel
theorem dX7_isAnyFixed_1 : decode cX7_isAnyFixed 1 = .ok (.istore_n 1, 1) := by decide +kernel
theorem dX7_isAnyFixed_2 : decode cX7_isAnyFixed 2 = .ok (.iload_n 1, 1) := by decide +kernel
theorem dX7_isAnyFixed_3 : decode cX7_isAnyFixed 3 = .ok (.aload_n 0, 1) := by decide +kernel
theorem dX7_isAnyFixed_4 : decode cX7_isAnyFixed 4 = .ok (.getfield 129, 3) := by decide +kernel
theorem dX7_isAnyFixed_7 : decode cX7_isAnyFixed 7 = .ok (.if_icmp .ge 20, 3) := by decide +kernel
theorem dX7_isAnyFixed_10 : decode cX7_isAnyFixed 10 = .ok (.aload_n 0, 1) := by decide +kernel
theorem dX7_isAnyFixed_11 : decode cX7_isAnyFixed 11 = .ok (.iload_n 1, 1) := by decide +kernel
theorem dX7_isAnyFixed_12 : decode cX7_isAnyFixed 12 = .ok (.invokevirtual 149, 3) := by decide +kernel
theorem dX7_isAnyFixed_15 : decode cX7_isAnyFixed 15 = .ok (.iconst 1, 1) := by decide +kernel
theorem dX7_isAnyFixed_16 : decode cX7_isAnyFixed 16 = .ok (.if_icmp .ne 5, 3) := by decide +kernel
theorem dX7_isAnyFixed_19 : decode cX7_isAnyFixed 19 = .ok (.iconst 1, 1) := by decide +kernel
theorem dX7_isAnyFixed_20 : decode cX7_isAnyFixed 20 = .ok (.ireturn, 1) := by decide +kernel
theorem dX7_isAnyFixed_21 : decode cX7_isAnyFixed 21 = .ok (.iinc 1 1, 3) := by decide +kernel
theorem dX7_isAnyFixed_24 : decode cX7_isAnyFixed 24 = .ok (.goto (-22), 3) := by decide +kernel
theorem dX7_isAnyFixed_27 : decode cX7_isAnyFixed 27 = .ok (.iconst 0, 1) := by decide +kernel
theorem dX7_isAnyFixed_28 : decode cX7_isAnyFixed 28 = .ok (.ireturn, 1) := by decide +kernel
theorem dX7_isPivot_0 : decode cX7_isPivot 0 = .ok (.iconst 0, 1) := by decide +kernel
theorem dX7_isPivot_1 : decode cX7_isPivot 1 = .ok (.istore_n 2, 1) := by decide +kernel
theorem dX7_isPivot_2 : decode cX7_isPivot 2 = .ok (.iload_n 2, 1) := by decide +kernel
theorem dX7_isPivot_3 : decode cX7_isPivot 3 = .ok (.aload_n 0, 1) := by decide +kernel
theorem dX7_isPivot_4 : decode cX7_isPivot 4 = .ok (.getfield 129, 3) := by decide +kernel
theorem dX7_isPivot_7 : decode cX7_isPivot 7 = .ok (.if_icmp .ge 21, 3) := by decide +kernel
theorem dX7_isPivot_10 : decode cX7_isPivot 10 = .ok (.aload_n 0, 1) := by decide +kernel
theorem dX7_isPivot_11 : decode cX7_isPivot 11 = .ok (.getfield 47, 3) := by decide +kernel
theorem dX7_isPivot_14 : decode cX7_isPivot 14 = .ok (.iload_n 2, 1) := by decide +kernel
theorem dX7_isPivot_15 : decode cX7_isPivot 15 = .ok (.iaload, 1) := by decide +kernel
theorem dX7_isPivot_16 : decode cX7_isPivot 16 = .ok (.iload_n 1, 1) := by decide +kernel
theorem dX7_isPivot_17 : decode cX7_isPivot 17 = .ok (.if_icmp .ne 5, 3) := by decide +kernel
theorem dX7_isPivot_20 : decode cX7_isPivot 20 = .ok (.iconst 1, 1) := by decide +kernel
theorem dX7_isPivot_21 : decode cX7_isPivot 21 = .ok (.ireturn, 1) := by decide +kernel
theorem dX7_isPivot_22 : decode cX7_isPivot 22 = .ok (.iinc 2 1, 3) := by decide +kernel
theorem dX7_isPivot_25 : decode cX7_isPivot 25 = .ok (.goto (-23), 3) := by decide +kernel
theorem dX7_isPivot_28 : decode cX7_isPivot 28 = .ok (.iconst 0, 1) := by decide +kernel
theorem dX7_isPivot_29 : decode cX7_isPivot 29 = .ok (.ireturn, 1) := by decide +kernel
theorem dX7_areAlike_0 : decode cX7_areAlike 0 = .ok (.iconst 0, 1) := by decide +kernel
theorem dX7_areAlike_1 : decode cX7_areAlike 1 = .ok (.istore_n 3, 1) := by decide +kernel
theorem dX7_areAlike_2 : decode cX7_areAlike 2 = .ok (.iload_n 3, 1) := by decide +kernel
theorem dX7_areAlike_3 : decode cX7_areAlike 3 = .ok (.bipush 10, 2) := by decide +kernel
theorem dX7_areAlike_5 : decode cX7_areAlike 5 = .ok (.if_icmp .ge 156, 3) := by decide +kernel
theorem dX7_areAlike_8 : decode cX7_areAlike 8 = .ok (.iload_n 3, 1) := by decide +kernel
theorem dX7_areAlike_9 : decode cX7_areAlike 9 = .ok (.iconst 1, 1) := by decide +kernel
theorem dX7_areAlike_10 : decode cX7_areAlike 10 = .ok (.iadd, 1) := by decide +kernel
theorem dX7_areAlike_11 : decode cX7_areAlike 11 = .ok (.istore 4, 2) := by decide +kernel
theorem dX7_areAlike_13 : decode cX7_areAlike 13 = .ok (.iload 4, 2) := by decide +kernel
theorem dX7_areAlike_15 : decode cX7_areAlike 15 = .ok (.bipush 10, 2) := by decide +kernel
theorem dX7_areAlike_17 : decode cX7_areAlike 17 = .ok (.if_icmp .ge 83, 3) := by decide +kernel
theorem dX7_areAlike_20 : decode cX7_areAlike 20 = .ok (.aload_n 0, 1) := by decide +kernel
theorem dX7_areAlike_21 : decode cX7_areAlike 21 = .ok (.iload_n 3, 1) := by decide +kernel
theorem dX7_areAlike_22 : decode cX7_areAlike 22 = .ok (.invokevirtual 153, 3) := by decide +kernel
theorem dX7_areAlike_25 : decode cX7_areAlike 25 = .ok (.ifCond .ne 69, 3) := by decide +kernel
theorem dX7_areAlike_28 : decode cX7_areAlike 28 = .ok (.aload_n 0, 1) := by decide +kernel
theorem dX7_areAlike_29 : decode cX7_areAlike 29 = .ok (.iload 4, 2) := by decide +kernel
theorem dX7_areAlike_31 : decode cX7_areAlike 31 = .ok (.invokevirtual 153, 3) := by decide +kernel
theorem dX7_areAlike_34 : decode cX7_areAlike 34 = .ok (.ifCond .eq 6, 3) := by decide +kernel
theorem dX7_areAlike_37 : decode cX7_areAlike 37 = .ok (.goto 57, 3) := by decide +kernel
theorem dX7_areAlike_40 : decode cX7_areAlike 40 = .ok (.aload_n 0, 1) := by decide +kernel
theorem dX7_areAlike_41 : decode cX7_areAlike 41 = .ok (.getfield 38, 3) := by decide +kernel
theorem dX7_areAlike_44 : decode cX7_areAlike 44 = .ok (.bipush 10, 2) := by decide +kernel
theorem dX7_areAlike_46 : decode cX7_areAlike 46 = .ok (.iload_n 1, 1) := by decide +kernel
theorem dX7_areAlike_47 : decode cX7_areAlike 47 = .ok (.imul, 1) := by decide +kernel
theorem dX7_areAlike_48 : decode cX7_areAlike 48 = .ok (.iload_n 3, 1) := by decide +kernel
theorem dX7_areAlike_49 : decode cX7_areAlike 49 = .ok (.iadd, 1) := by decide +kernel
theorem dX7_areAlike_50 : decode cX7_areAlike 50 = .ok (.laload, 1) := by decide +kernel
theorem dX7_areAlike_51 : decode cX7_areAlike 51 = .ok (.aload_n 0, 1) := by decide +kernel
theorem dX7_areAlike_52 : decode cX7_areAlike 52 = .ok (.getfield 38, 3) := by decide +kernel
theorem dX7_areAlike_55 : decode cX7_areAlike 55 = .ok (.bipush 10, 2) := by decide +kernel
theorem dX7_areAlike_57 : decode cX7_areAlike 57 = .ok (.iload_n 2, 1) := by decide +kernel
theorem dX7_areAlike_58 : decode cX7_areAlike 58 = .ok (.imul, 1) := by decide +kernel
theorem dX7_areAlike_59 : decode cX7_areAlike 59 = .ok (.iload 4, 2) := by decide +kernel
theorem dX7_areAlike_61 : decode cX7_areAlike 61 = .ok (.iadd, 1) := by decide +kernel
theorem dX7_areAlike_62 : decode cX7_areAlike 62 = .ok (.laload, 1) := by decide +kernel
theorem dX7_areAlike_63 : decode cX7_areAlike 63 = .ok (.lmul, 1) := by decide +kernel
theorem dX7_areAlike_64 : decode cX7_areAlike 64 = .ok (.aload_n 0, 1) := by decide +kernel
theorem dX7_areAlike_65 : decode cX7_areAlike 65 = .ok (.getfield 38, 3) := by decide +kernel
theorem dX7_areAlike_68 : decode cX7_areAlike 68 = .ok (.bipush 10, 2) := by decide +kernel
theorem dX7_areAlike_70 : decode cX7_areAlike 70 = .ok (.iload_n 1, 1) := by decide +kernel
theorem dX7_areAlike_71 : decode cX7_areAlike 71 = .ok (.imul, 1) := by decide +kernel
theorem dX7_areAlike_72 : decode cX7_areAlike 72 = .ok (.iload 4, 2) := by decide +kernel
theorem dX7_areAlike_74 : decode cX7_areAlike 74 = .ok (.iadd, 1) := by decide +kernel
theorem dX7_areAlike_75 : decode cX7_areAlike 75 = .ok (.laload, 1) := by decide +kernel
theorem dX7_areAlike_76 : decode cX7_areAlike 76 = .ok (.aload_n 0, 1) := by decide +kernel
theorem dX7_areAlike_77 : decode cX7_areAlike 77 = .ok (.getfield 38, 3) := by decide +kernel
theorem dX7_areAlike_80 : decode cX7_areAlike 80 = .ok (.bipush 10, 2) := by decide +kernel
theorem dX7_areAlike_82 : decode cX7_areAlike 82 = .ok (.iload_n 2, 1) := by decide +kernel
theorem dX7_areAlike_83 : decode cX7_areAlike 83 = .ok (.imul, 1) := by decide +kernel
theorem dX7_areAlike_84 : decode cX7_areAlike 84 = .ok (.iload_n 3, 1) := by decide +kernel
theorem dX7_areAlike_85 : decode cX7_areAlike 85 = .ok (.iadd, 1) := by decide +kernel
theorem dX7_areAlike_86 : decode cX7_areAlike 86 = .ok (.laload, 1) := by decide +kernel
theorem dX7_areAlike_87 : decode cX7_areAlike 87 = .ok (.lmul, 1) := by decide +kernel
theorem dX7_areAlike_88 : decode cX7_areAlike 88 = .ok (.lcmp, 1) := by decide +kernel
theorem dX7_areAlike_89 : decode cX7_areAlike 89 = .ok (.ifCond .eq 5, 3) := by decide +kernel
theorem dX7_areAlike_92 : decode cX7_areAlike 92 = .ok (.iconst 0, 1) := by decide +kernel
theorem dX7_areAlike_93 : decode cX7_areAlike 93 = .ok (.ireturn, 1) := by decide +kernel
theorem dX7_areAlike_94 : decode cX7_areAlike 94 = .ok (.iinc 4 1, 3) := by decide +kernel
theorem dX7_areAlike_97 : decode cX7_areAlike 97 = .ok (.goto (-84), 3) := by decide +kernel
theorem dX7_areAlike_100 : decode cX7_areAlike 100 = .ok (.aload_n 0, 1) := by decide +kernel
theorem dX7_areAlike_101 : decode cX7_areAlike 101 = .ok (.iload_n 3, 1) := by decide +kernel
theorem dX7_areAlike_102 : decode cX7_areAlike 102 = .ok (.invokevirtual 153, 3) := by decide +kernel
theorem dX7_areAlike_105 : decode cX7_areAlike 105 = .ok (.ifCond .ne 50, 3) := by decide +kernel
theorem dX7_areAlike_108 : decode cX7_areAlike 108 = .ok (.aload_n 0, 1) := by decide +kernel
theorem dX7_areAlike_109 : decode cX7_areAlike 109 = .ok (.getfield 38, 3) := by decide +kernel
theorem dX7_areAlike_112 : decode cX7_areAlike 112 = .ok (.bipush 10, 2) := by decide +kernel
theorem dX7_areAlike_114 : decode cX7_areAlike 114 = .ok (.iload_n 1, 1) := by decide +kernel
theorem dX7_areAlike_115 : decode cX7_areAlike 115 = .ok (.imul, 1) := by decide +kernel
theorem dX7_areAlike_116 : decode cX7_areAlike 116 = .ok (.iload_n 3, 1) := by decide +kernel
theorem dX7_areAlike_117 : decode cX7_areAlike 117 = .ok (.iadd, 1) := by decide +kernel
theorem dX7_areAlike_118 : decode cX7_areAlike 118 = .ok (.laload, 1) := by decide +kernel
theorem dX7_areAlike_119 : decode cX7_areAlike 119 = .ok (.lconst 0, 1) := by decide +kernel
theorem dX7_areAlike_120 : decode cX7_areAlike 120 = .ok (.lcmp, 1) := by decide +kernel
theorem dX7_areAlike_121 : decode cX7_areAlike 121 = .ok (.ifCond .ne 7, 3) := by decide +kernel
theorem dX7_areAlike_124 : decode cX7_areAlike 124 = .ok (.iconst 1, 1) := by decide +kernel
theorem dX7_areAlike_125 : decode cX7_areAlike 125 = .ok (.goto 4, 3) := by decide +kernel
theorem dX7_areAlike_128 : decode cX7_areAlike 128 = .ok (.iconst 0, 1) := by decide +kernel
theorem dX7_areAlike_129 : decode cX7_areAlike 129 = .ok (.aload_n 0, 1) := by decide +kernel
theorem dX7_areAlike_130 : decode cX7_areAlike 130 = .ok (.getfield 38, 3) := by decide +kernel
theorem dX7_areAlike_133 : decode cX7_areAlike 133 = .ok (.bipush 10, 2) := by decide +kernel
theorem dX7_areAlike_135 : decode cX7_areAlike 135 = .ok (.iload_n 2, 1) := by decide +kernel
theorem dX7_areAlike_136 : decode cX7_areAlike 136 = .ok (.imul, 1) := by decide +kernel
theorem dX7_areAlike_137 : decode cX7_areAlike 137 = .ok (.iload_n 3, 1) := by decide +kernel
theorem dX7_areAlike_138 : decode cX7_areAlike 138 = .ok (.iadd, 1) := by decide +kernel
theorem dX7_areAlike_139 : decode cX7_areAlike 139 = .ok (.laload, 1) := by decide +kernel
theorem dX7_areAlike_140 : decode cX7_areAlike 140 = .ok (.lconst 0, 1) := by decide +kernel
theorem dX7_areAlike_141 : decode cX7_areAlike 141 = .ok (.lcmp, 1) := by decide +kernel
theorem dX7_areAlike_142 : decode cX7_areAlike 142 = .ok (.ifCond .ne 7, 3) := by decide +kernel
theorem dX7_areAlike_145 : decode cX7_areAlike 145 = .ok (.iconst 1, 1) := by decide +kernel
theorem dX7_areAlike_146 : decode cX7_areAlike 146 = .ok (.goto 4, 3) := by decide +kernel
theorem dX7_areAlike_149 : decode cX7_areAlike 149 = .ok (.iconst 0, 1) := by decide +kernel
theorem dX7_areAlike_150 : decode cX7_areAlike 150 = .ok (.if_icmp .eq 5, 3) := by decide +kernel
theorem dX7_areAlike_153 : decode cX7_areAlike 153 = .ok (.iconst 0, 1) := by decide +kernel
theorem dX7_areAlike_154 : decode cX7_areAlike 154 = .ok (.ireturn, 1) := by decide +kernel
theorem dX7_areAlike_155 : decode cX7_areAlike 155 = .ok (.iinc 3 1, 3) := by decide +kernel
theorem dX7_areAlike_158 : decode cX7_areAlike 158 = .ok (.goto (-156), 3) := by decide +kernel
theorem dX7_areAlike_161 : decode cX7_areAlike 161 = .ok (.iconst 1, 1) := by decide +kernel
theorem dX7_areAlike_162 : decode cX7_areAlike 162 = .ok (.ireturn, 1) := by decide +kernel
theorem dX7_isAnyPaired_0 : decode cX7_isAnyPaired 0 = .ok (.iconst 0, 1) := by decide +kernel
theorem dX7_isAnyPaired_1 : decode cX7_isAnyPaired 1 = .ok (.istore_n 1, 1) := by decide +kernel
theorem dX7_isAnyPaired_2 : decode cX7_isAnyPaired 2 = .ok (.iload_n 1, 1) := by decide +kernel
theorem dX7_isAnyPaired_3 : decode cX7_isAnyPaired 3 = .ok (.aload_n 0, 1) := by decide +kernel
theorem dX7_isAnyPaired_4 : decode cX7_isAnyPaired 4 = .ok (.getfield 129, 3) := by decide +kernel
theorem dX7_isAnyPaired_7 : decode cX7_isAnyPaired 7 = .ok (.if_icmp .ge 49, 3) := by decide +kernel
theorem dX7_isAnyPaired_10 : decode cX7_isAnyPaired 10 = .ok (.aload_n 0, 1) := by decide +kernel
theorem dX7_isAnyPaired_11 : decode cX7_isAnyPaired 11 = .ok (.iload_n 1, 1) := by decide +kernel
theorem dX7_isAnyPaired_12 : decode cX7_isAnyPaired 12 = .ok (.invokevirtual 149, 3) := by decide +kernel
theorem dX7_isAnyPaired_15 : decode cX7_isAnyPaired 15 = .ok (.iconst 2, 1) := by decide +kernel
theorem dX7_isAnyPaired_16 : decode cX7_isAnyPaired 16 = .ok (.if_icmp .ne 5, 3) := by decide +kernel
theorem dX7_isAnyPaired_19 : decode cX7_isAnyPaired 19 = .ok (.iconst 1, 1) := by decide +kernel
theorem dX7_isAnyPaired_20 : decode cX7_isAnyPaired 20 = .ok (.ireturn, 1) := by decide +kernel
theorem dX7_isAnyPaired_21 : decode cX7_isAnyPaired 21 = .ok (.iload_n 1, 1) := by decide +kernel
theorem dX7_isAnyPaired_22 : decode cX7_isAnyPaired 22 = .ok (.iconst 1, 1) := by decide +kernel
theorem dX7_isAnyPaired_23 : decode cX7_isAnyPaired 23 = .ok (.iadd, 1) := by decide +kernel
theorem dX7_isAnyPaired_24 : decode cX7_isAnyPaired 24 = .ok (.istore_n 2, 1) := by decide +kernel
theorem dX7_isAnyPaired_25 : decode cX7_isAnyPaired 25 = .ok (.iload_n 2, 1) := by decide +kernel
theorem dX7_isAnyPaired_26 : decode cX7_isAnyPaired 26 = .ok (.aload_n 0, 1) := by decide +kernel
theorem dX7_isAnyPaired_27 : decode cX7_isAnyPaired 27 = .ok (.getfield 129, 3) := by decide +kernel
theorem dX7_isAnyPaired_30 : decode cX7_isAnyPaired 30 = .ok (.if_icmp .ge 20, 3) := by decide +kernel
theorem dX7_isAnyPaired_33 : decode cX7_isAnyPaired 33 = .ok (.aload_n 0, 1) := by decide +kernel
theorem dX7_isAnyPaired_34 : decode cX7_isAnyPaired 34 = .ok (.iload_n 1, 1) := by decide +kernel
theorem dX7_isAnyPaired_35 : decode cX7_isAnyPaired 35 = .ok (.iload_n 2, 1) := by decide +kernel
theorem dX7_isAnyPaired_36 : decode cX7_isAnyPaired 36 = .ok (.invokevirtual 157, 3) := by decide +kernel
theorem dX7_isAnyPaired_39 : decode cX7_isAnyPaired 39 = .ok (.ifCond .eq 5, 3) := by decide +kernel
theorem dX7_isAnyPaired_42 : decode cX7_isAnyPaired 42 = .ok (.iconst 1, 1) := by decide +kernel
theorem dX7_isAnyPaired_43 : decode cX7_isAnyPaired 43 = .ok (.ireturn, 1) := by decide +kernel
theorem dX7_isAnyPaired_44 : decode cX7_isAnyPaired 44 = .ok (.iinc 2 1, 3) := by decide +kernel
theorem dX7_isAnyPaired_47 : decode cX7_isAnyPaired 47 = .ok (.goto (-22), 3) := by decide +kernel
theorem dX7_isAnyPaired_50 : decode cX7_isAnyPaired 50 = .ok (.iinc 1 1, 3) := by decide +kernel
theorem dX7_isAnyPaired_53 : decode cX7_isAnyPaired 53 = .ok (.goto (-51), 3) := by decide +kernel
theorem dX7_isAnyPaired_56 : decode cX7_isAnyPaired 56 = .ok (.iconst 0, 1) := by decide +kernel
theorem dX7_isAnyPaired_57 : decode cX7_isAnyPaired 57 = .ok (.ireturn, 1) := by decide +kernel
theorem dX7_isForbidden_0 : decode cX7_isForbidden 0 = .ok (.aload_n 0, 1) := by decide +kernel
theorem dX7_isForbidden_1 : decode cX7_isForbidden 1 = .ok (.invokevirtual 160, 3) := by decide +kernel
theorem dX7_isForbidden_4 : decode cX7_isForbidden 4 = .ok (.ifCond .eq 5, 3) := by decide +kernel
theorem dX7_isForbidden_7 : decode cX7_isForbidden 7 = .ok (.iconst 1, 1) := by decide +kernel
theorem dX7_isForbidden_8 : decode cX7_isForbidden 8 = .ok (.ireturn, 1) := by decide +kernel
theorem dX7_isForbidden_9 : decode cX7_isForbidden 9 = .ok (.iload_n 1, 1) := by decide +kernel
theorem dX7_isForbidden_10 : decode cX7_isForbidden 10 = .ok (.iconst 1, 1) := by decide +kernel
theorem dX7_isForbidden_11 : decode cX7_isForbidden 11 = .ok (.if_icmp .ne 22, 3) := by decide +kernel
theorem dX7_isForbidden_14 : decode cX7_isForbidden 14 = .ok (.aload_n 0, 1) := by decide +kernel
theorem dX7_isForbidden_15 : decode cX7_isForbidden 15 = .ok (.getfield 107, 3) := by decide +kernel
theorem dX7_isForbidden_18 : decode cX7_isForbidden 18 = .ok (.iconst 2, 1) := by decide +kernel
theorem dX7_isForbidden_19 : decode cX7_isForbidden 19 = .ok (.bipush 6, 2) := by decide +kernel
theorem dX7_isForbidden_21 : decode cX7_isForbidden 21 = .ok (.invokestatic 96, 3) := by decide +kernel
theorem dX7_isForbidden_24 : decode cX7_isForbidden 24 = .ok (.ifCond .ne 7, 3) := by decide +kernel
theorem dX7_isForbidden_27 : decode cX7_isForbidden 27 = .ok (.iconst 1, 1) := by decide +kernel
theorem dX7_isForbidden_28 : decode cX7_isForbidden 28 = .ok (.goto 4, 3) := by decide +kernel
theorem dX7_isForbidden_31 : decode cX7_isForbidden 31 = .ok (.iconst 0, 1) := by decide +kernel
theorem dX7_isForbidden_32 : decode cX7_isForbidden 32 = .ok (.ireturn, 1) := by decide +kernel
theorem dX7_isForbidden_33 : decode cX7_isForbidden 33 = .ok (.iload_n 1, 1) := by decide +kernel
theorem dX7_isForbidden_34 : decode cX7_isForbidden 34 = .ok (.iconst 2, 1) := by decide +kernel
theorem dX7_isForbidden_35 : decode cX7_isForbidden 35 = .ok (.if_icmp .ne 10, 3) := by decide +kernel
theorem dX7_isForbidden_38 : decode cX7_isForbidden 38 = .ok (.aload_n 0, 1) := by decide +kernel
theorem dX7_isForbidden_39 : decode cX7_isForbidden 39 = .ok (.invokevirtual 164, 3) := by decide +kernel
theorem dX7_isForbidden_42 : decode cX7_isForbidden 42 = .ok (.goto 21, 3) := by decide +kernel
theorem dX7_isForbidden_45 : decode cX7_isForbidden 45 = .ok (.iload_n 1, 1) := by decide +kernel
theorem dX7_isForbidden_46 : decode cX7_isForbidden 46 = .ok (.iconst 3, 1) := by decide +kernel
theorem dX7_isForbidden_47 : decode cX7_isForbidden 47 = .ok (.if_icmp .ne 15, 3) := by decide +kernel
theorem dX7_isForbidden_50 : decode cX7_isForbidden 50 = .ok (.aload_n 0, 1) := by decide +kernel
theorem dX7_isForbidden_51 : decode cX7_isForbidden 51 = .ok (.getfield 129, 3) := by decide +kernel
theorem dX7_isForbidden_54 : decode cX7_isForbidden 54 = .ok (.iload_n 2, 1) := by decide +kernel
theorem dX7_isForbidden_55 : decode cX7_isForbidden 55 = .ok (.if_icmp .le 7, 3) := by decide +kernel
theorem dX7_isForbidden_58 : decode cX7_isForbidden 58 = .ok (.iconst 1, 1) := by decide +kernel
theorem dX7_isForbidden_59 : decode cX7_isForbidden 59 = .ok (.goto 4, 3) := by decide +kernel
theorem dX7_isForbidden_62 : decode cX7_isForbidden 62 = .ok (.iconst 0, 1) := by decide +kernel
theorem dX7_isForbidden_63 : decode cX7_isForbidden 63 = .ok (.ireturn, 1) := by decide +kernel
theorem dX7_meetsBy_0 : decode cX7_meetsBy 0 = .ok (.aload_n 0, 1) := by decide +kernel
theorem dX7_meetsBy_1 : decode cX7_meetsBy 1 = .ok (.invokevirtual 167, 3) := by decide +kernel
theorem dX7_meetsBy_4 : decode cX7_meetsBy 4 = .ok (.aload_n 0, 1) := by decide +kernel
theorem dX7_meetsBy_5 : decode cX7_meetsBy 5 = .ok (.aload_n 0, 1) := by decide +kernel
theorem dX7_meetsBy_6 : decode cX7_meetsBy 6 = .ok (.getfield 31, 3) := by decide +kernel
theorem dX7_meetsBy_9 : decode cX7_meetsBy 9 = .ok (.iconst 0, 1) := by decide +kernel
theorem dX7_meetsBy_10 : decode cX7_meetsBy 10 = .ok (.invokevirtual 136, 3) := by decide +kernel
theorem dX7_meetsBy_13 : decode cX7_meetsBy 13 = .ok (.aload_n 0, 1) := by decide +kernel
theorem dX7_meetsBy_14 : decode cX7_meetsBy 14 = .ok (.invokevirtual 140, 3) := by decide +kernel
theorem dX7_meetsBy_17 : decode cX7_meetsBy 17 = .ok (.ifCond .ge 5, 3) := by decide +kernel
theorem dX7_meetsBy_20 : decode cX7_meetsBy 20 = .ok (.iconst 0, 1) := by decide +kernel
theorem dX7_meetsBy_21 : decode cX7_meetsBy 21 = .ok (.ireturn, 1) := by decide +kernel
theorem dX7_meetsBy_22 : decode cX7_meetsBy 22 = .ok (.aload_n 0, 1) := by decide +kernel
theorem dX7_meetsBy_23 : decode cX7_meetsBy 23 = .ok (.aload_n 0, 1) := by decide +kernel
theorem dX7_meetsBy_24 : decode cX7_meetsBy 24 = .ok (.getfield 31, 3) := by decide +kernel
theorem dX7_meetsBy_27 : decode cX7_meetsBy 27 = .ok (.iconst 0, 1) := by decide +kernel
theorem dX7_meetsBy_28 : decode cX7_meetsBy 28 = .ok (.invokevirtual 146, 3) := by decide +kernel
theorem dX7_meetsBy_31 : decode cX7_meetsBy 31 = .ok (.aload_n 0, 1) := by decide +kernel
theorem dX7_meetsBy_32 : decode cX7_meetsBy 32 = .ok (.iload_n 1, 1) := by decide +kernel
theorem dX7_meetsBy_33 : decode cX7_meetsBy 33 = .ok (.iload_n 2, 1) := by decide +kernel
theorem dX7_meetsBy_34 : decode cX7_meetsBy 34 = .ok (.invokevirtual 170, 3) := by decide +kernel
theorem dX7_meetsBy_37 : decode cX7_meetsBy 37 = .ok (.ifCond .eq 7, 3) := by decide +kernel
theorem dX7_meetsBy_40 : decode cX7_meetsBy 40 = .ok (.iconst 2, 1) := by decide +kernel
theorem dX7_meetsBy_41 : decode cX7_meetsBy 41 = .ok (.goto 4, 3) := by decide +kernel
theorem dX7_meetsBy_44 : decode cX7_meetsBy 44 = .ok (.iconst 1, 1) := by decide +kernel
theorem dX7_meetsBy_45 : decode cX7_meetsBy 45 = .ok (.ireturn, 1) := by decide +kernel
theorem dX7_meetsNow_0 : decode cX7_meetsNow 0 = .ok (.aload_n 0, 1) := by decide +kernel
theorem dX7_meetsNow_1 : decode cX7_meetsNow 1 = .ok (.invokevirtual 173, 3) := by decide +kernel
theorem dX7_meetsNow_4 : decode cX7_meetsNow 4 = .ok (.aload_n 0, 1) := by decide +kernel
theorem dX7_meetsNow_5 : decode cX7_meetsNow 5 = .ok (.aload_n 0, 1) := by decide +kernel
theorem dX7_meetsNow_6 : decode cX7_meetsNow 6 = .ok (.getfield 176, 3) := by decide +kernel
theorem dX7_meetsNow_9 : decode cX7_meetsNow 9 = .ok (.aload_n 0, 1) := by decide +kernel
theorem dX7_meetsNow_10 : decode cX7_meetsNow 10 = .ok (.getfield 90, 3) := by decide +kernel
theorem dX7_meetsNow_13 : decode cX7_meetsNow 13 = .ok (.invokevirtual 179, 3) := by decide +kernel
theorem dX7_meetsNow_16 : decode cX7_meetsNow 16 = .ok (.ireturn, 1) := by decide +kernel
theorem dX7_joins_0 : decode cX7_joins 0 = .ok (.iconst 0, 1) := by decide +kernel
theorem dX7_joins_1 : decode cX7_joins 1 = .ok (.istore_n 1, 1) := by decide +kernel
theorem dX7_joins_2 : decode cX7_joins 2 = .ok (.iload_n 1, 1) := by decide +kernel
theorem dX7_joins_3 : decode cX7_joins 3 = .ok (.bipush 10, 2) := by decide +kernel
theorem dX7_joins_5 : decode cX7_joins 5 = .ok (.if_icmp .ge 29, 3) := by decide +kernel
theorem dX7_joins_8 : decode cX7_joins 8 = .ok (.aload_n 0, 1) := by decide +kernel
theorem dX7_joins_9 : decode cX7_joins 9 = .ok (.getfield 25, 3) := by decide +kernel
theorem dX7_joins_12 : decode cX7_joins 12 = .ok (.bipush 10, 2) := by decide +kernel
theorem dX7_joins_14 : decode cX7_joins 14 = .ok (.aload_n 0, 1) := by decide +kernel
theorem dX7_joins_15 : decode cX7_joins 15 = .ok (.getfield 100, 3) := by decide +kernel
theorem dX7_joins_18 : decode cX7_joins 18 = .ok (.imul, 1) := by decide +kernel
theorem dX7_joins_19 : decode cX7_joins 19 = .ok (.iload_n 1, 1) := by decide +kernel
theorem dX7_joins_20 : decode cX7_joins 20 = .ok (.iadd, 1) := by decide +kernel
theorem dX7_joins_21 : decode cX7_joins 21 = .ok (.aload_n 0, 1) := by decide +kernel
theorem dX7_joins_22 : decode cX7_joins 22 = .ok (.getfield 31, 3) := by decide +kernel
theorem dX7_joins_25 : decode cX7_joins 25 = .ok (.iload_n 1, 1) := by decide +kernel
theorem dX7_joins_26 : decode cX7_joins 26 = .ok (.iaload, 1) := by decide +kernel
theorem dX7_joins_27 : decode cX7_joins 27 = .ok (.iastore, 1) := by decide +kernel
theorem dX7_joins_28 : decode cX7_joins 28 = .ok (.iinc 1 1, 3) := by decide +kernel
theorem dX7_joins_31 : decode cX7_joins 31 = .ok (.goto (-29), 3) := by decide +kernel
theorem dX7_joins_34 : decode cX7_joins 34 = .ok (.aload_n 0, 1) := by decide +kernel
theorem dX7_joins_35 : decode cX7_joins 35 = .ok (.getfield 28, 3) := by decide +kernel
theorem dX7_joins_38 : decode cX7_joins 38 = .ok (.aload_n 0, 1) := by decide +kernel
theorem dX7_joins_39 : decode cX7_joins 39 = .ok (.getfield 100, 3) := by decide +kernel
theorem dX7_joins_42 : decode cX7_joins 42 = .ok (.aload_n 0, 1) := by decide +kernel
theorem dX7_joins_43 : decode cX7_joins 43 = .ok (.invokevirtual 183, 3) := by decide +kernel
theorem dX7_joins_46 : decode cX7_joins 46 = .ok (.iastore, 1) := by decide +kernel
theorem dX7_joins_47 : decode cX7_joins 47 = .ok (.aload_n 0, 1) := by decide +kernel
theorem dX7_joins_48 : decode cX7_joins 48 = .ok (.dup, 1) := by decide +kernel
theorem dX7_joins_49 : decode cX7_joins 49 = .ok (.getfield 100, 3) := by decide +kernel
theorem dX7_joins_52 : decode cX7_joins 52 = .ok (.iconst 1, 1) := by decide +kernel
theorem dX7_joins_53 : decode cX7_joins 53 = .ok (.iadd, 1) := by decide +kernel
theorem dX7_joins_54 : decode cX7_joins 54 = .ok (.putfield 100, 3) := by decide +kernel
theorem dX7_joins_57 : decode cX7_joins 57 = .ok (.return_, 1) := by decide +kernel
theorem dX7_isAsked_0 : decode cX7_isAsked 0 = .ok (.aload_n 0, 1) := by decide +kernel
theorem dX7_isAsked_1 : decode cX7_isAsked 1 = .ok (.invokevirtual 186, 3) := by decide +kernel
theorem dX7_isAsked_4 : decode cX7_isAsked 4 = .ok (.istore_n 1, 1) := by decide +kernel
theorem dX7_isAsked_5 : decode cX7_isAsked 5 = .ok (.iload_n 1, 1) := by decide +kernel
theorem dX7_isAsked_6 : decode cX7_isAsked 6 = .ok (.iconst 1, 1) := by decide +kernel
theorem dX7_isAsked_7 : decode cX7_isAsked 7 = .ok (.if_icmp .ne 7, 3) := by decide +kernel
theorem dX7_isAsked_10 : decode cX7_isAsked 10 = .ok (.aload_n 0, 1) := by decide +kernel
theorem dX7_isAsked_11 : decode cX7_isAsked 11 = .ok (.invokevirtual 189, 3) := by decide +kernel
theorem dX7_isAsked_14 : decode cX7_isAsked 14 = .ok (.iload_n 1, 1) := by decide +kernel
theorem dX7_isAsked_15 : decode cX7_isAsked 15 = .ok (.ireturn, 1) := by decide +kernel
theorem dX7_passes_0 : decode cX7_passes 0 = .ok (.iconst 0, 1) := by decide +kernel
theorem dX7_passes_1 : decode cX7_passes 1 = .ok (.istore_n 2, 1) := by decide +kernel
theorem dX7_passes_2 : decode cX7_passes 2 = .ok (.iload_n 2, 1) := by decide +kernel
theorem dX7_passes_3 : decode cX7_passes 3 = .ok (.aload_n 1, 1) := by decide +kernel
theorem dX7_passes_4 : decode cX7_passes 4 = .ok (.arraylength, 1) := by decide +kernel
theorem dX7_passes_5 : decode cX7_passes 5 = .ok (.if_icmp .ge 53, 3) := by decide +kernel
theorem dX7_passes_8 : decode cX7_passes 8 = .ok (.aload_n 0, 1) := by decide +kernel
theorem dX7_passes_9 : decode cX7_passes 9 = .ok (.getfield 192, 3) := by decide +kernel
theorem dX7_passes_12 : decode cX7_passes 12 = .ok (.ifCond .eq 18, 3) := by decide +kernel
theorem dX7_passes_15 : decode cX7_passes 15 = .ok (.aload_n 0, 1) := by decide +kernel
theorem dX7_passes_16 : decode cX7_passes 16 = .ok (.getfield 50, 3) := by decide +kernel
theorem dX7_passes_19 : decode cX7_passes 19 = .ok (.aload_n 0, 1) := by decide +kernel
theorem dX7_passes_20 : decode cX7_passes 20 = .ok (.getfield 196, 3) := by decide +kernel
theorem dX7_passes_23 : decode cX7_passes 23 = .ok (.aload_n 1, 1) := by decide +kernel
theorem dX7_passes_24 : decode cX7_passes 24 = .ok (.iload_n 2, 1) := by decide +kernel
theorem dX7_passes_25 : decode cX7_passes 25 = .ok (.iaload, 1) := by decide +kernel
theorem dX7_passes_26 : decode cX7_passes 26 = .ok (.iastore, 1) := by decide +kernel
theorem dX7_passes_27 : decode cX7_passes 27 = .ok (.goto 15, 3) := by decide +kernel
theorem dX7_passes_30 : decode cX7_passes 30 = .ok (.aload_n 1, 1) := by decide +kernel
theorem dX7_passes_31 : decode cX7_passes 31 = .ok (.iload_n 2, 1) := by decide +kernel
theorem dX7_passes_32 : decode cX7_passes 32 = .ok (.aload_n 0, 1) := by decide +kernel
theorem dX7_passes_33 : decode cX7_passes 33 = .ok (.getfield 50, 3) := by decide +kernel
theorem dX7_passes_36 : decode cX7_passes 36 = .ok (.aload_n 0, 1) := by decide +kernel
theorem dX7_passes_37 : decode cX7_passes 37 = .ok (.getfield 196, 3) := by decide +kernel
theorem dX7_passes_40 : decode cX7_passes 40 = .ok (.iaload, 1) := by decide +kernel
theorem dX7_passes_41 : decode cX7_passes 41 = .ok (.iastore, 1) := by decide +kernel
theorem dX7_passes_42 : decode cX7_passes 42 = .ok (.aload_n 0, 1) := by decide +kernel
theorem dX7_passes_43 : decode cX7_passes 43 = .ok (.dup, 1) := by decide +kernel
theorem dX7_passes_44 : decode cX7_passes 44 = .ok (.getfield 196, 3) := by decide +kernel
theorem dX7_passes_47 : decode cX7_passes 47 = .ok (.iconst 1, 1) := by decide +kernel
theorem dX7_passes_48 : decode cX7_passes 48 = .ok (.iadd, 1) := by decide +kernel
theorem dX7_passes_49 : decode cX7_passes 49 = .ok (.putfield 196, 3) := by decide +kernel
theorem dX7_passes_52 : decode cX7_passes 52 = .ok (.iinc 2 1, 3) := by decide +kernel
theorem dX7_passes_55 : decode cX7_passes 55 = .ok (.goto (-53), 3) := by decide +kernel
theorem dX7_passes_58 : decode cX7_passes 58 = .ok (.return_, 1) := by decide +kernel
theorem dX7_passOne_0 : decode cX7_passOne 0 = .ok (.aload_n 0, 1) := by decide +kernel
theorem dX7_passOne_1 : decode cX7_passOne 1 = .ok (.getfield 192, 3) := by decide +kernel
theorem dX7_passOne_4 : decode cX7_passOne 4 = .ok (.ifCond .eq 7, 3) := by decide +kernel
theorem dX7_passOne_7 : decode cX7_passOne 7 = .ok (.iload_n 1, 1) := by decide +kernel
theorem dX7_passOne_8 : decode cX7_passOne 8 = .ok (.goto 12, 3) := by decide +kernel
theorem dX7_passOne_11 : decode cX7_passOne 11 = .ok (.aload_n 0, 1) := by decide +kernel
theorem dX7_passOne_12 : decode cX7_passOne 12 = .ok (.getfield 50, 3) := by decide +kernel
theorem dX7_passOne_15 : decode cX7_passOne 15 = .ok (.aload_n 0, 1) := by decide +kernel
theorem dX7_passOne_16 : decode cX7_passOne 16 = .ok (.getfield 196, 3) := by decide +kernel
theorem dX7_passOne_19 : decode cX7_passOne 19 = .ok (.iaload, 1) := by decide +kernel
theorem dX7_passOne_20 : decode cX7_passOne 20 = .ok (.istore_n 2, 1) := by decide +kernel
theorem dX7_passOne_21 : decode cX7_passOne 21 = .ok (.aload_n 0, 1) := by decide +kernel
theorem dX7_passOne_22 : decode cX7_passOne 22 = .ok (.getfield 192, 3) := by decide +kernel
theorem dX7_passOne_25 : decode cX7_passOne 25 = .ok (.ifCond .eq 13, 3) := by decide +kernel
theorem dX7_passOne_28 : decode cX7_passOne 28 = .ok (.aload_n 0, 1) := by decide +kernel
theorem dX7_passOne_29 : decode cX7_passOne 29 = .ok (.getfield 50, 3) := by decide +kernel
theorem dX7_passOne_32 : decode cX7_passOne 32 = .ok (.aload_n 0, 1) := by decide +kernel
theorem dX7_passOne_33 : decode cX7_passOne 33 = .ok (.getfield 196, 3) := by decide +kernel
theorem dX7_passOne_36 : decode cX7_passOne 36 = .ok (.iload_n 1, 1) := by decide +kernel
theorem dX7_passOne_37 : decode cX7_passOne 37 = .ok (.iastore, 1) := by decide +kernel
theorem dX7_passOne_38 : decode cX7_passOne 38 = .ok (.aload_n 0, 1) := by decide +kernel
theorem dX7_passOne_39 : decode cX7_passOne 39 = .ok (.dup, 1) := by decide +kernel
theorem dX7_passOne_40 : decode cX7_passOne 40 = .ok (.getfield 196, 3) := by decide +kernel
theorem dX7_passOne_43 : decode cX7_passOne 43 = .ok (.iconst 1, 1) := by decide +kernel
theorem dX7_passOne_44 : decode cX7_passOne 44 = .ok (.iadd, 1) := by decide +kernel
theorem dX7_passOne_45 : decode cX7_passOne 45 = .ok (.putfield 196, 3) := by decide +kernel
theorem dX7_passOne_48 : decode cX7_passOne 48 = .ok (.iload_n 2, 1) := by decide +kernel
theorem dX7_passOne_49 : decode cX7_passOne 49 = .ok (.ireturn, 1) := by decide +kernel
theorem dX7_passesAll_0 : decode cX7_passesAll 0 = .ok (.aload_n 0, 1) := by decide +kernel
theorem dX7_passesAll_1 : decode cX7_passesAll 1 = .ok (.sipush 152, 3) := by decide +kernel
theorem dX7_passesAll_4 : decode cX7_passesAll 4 = .ok (.iload_n 1, 1) := by decide +kernel
theorem dX7_passesAll_5 : decode cX7_passesAll 5 = .ok (.imul, 1) := by decide +kernel
theorem dX7_passesAll_6 : decode cX7_passesAll 6 = .ok (.putfield 196, 3) := by decide +kernel
theorem dX7_passesAll_9 : decode cX7_passesAll 9 = .ok (.aload_n 0, 1) := by decide +kernel
theorem dX7_passesAll_10 : decode cX7_passesAll 10 = .ok (.iload_n 2, 1) := by decide +kernel
theorem dX7_passesAll_11 : decode cX7_passesAll 11 = .ok (.putfield 192, 3) := by decide +kernel
theorem dX7_passesAll_14 : decode cX7_passesAll 14 = .ok (.aload_n 0, 1) := by decide +kernel
theorem dX7_passesAll_15 : decode cX7_passesAll 15 = .ok (.aload_n 0, 1) := by decide +kernel
theorem dX7_passesAll_16 : decode cX7_passesAll 16 = .ok (.getfield 13, 3) := by decide +kernel
theorem dX7_passesAll_19 : decode cX7_passesAll 19 = .ok (.invokevirtual 199, 3) := by decide +kernel
theorem dX7_passesAll_22 : decode cX7_passesAll 22 = .ok (.aload_n 0, 1) := by decide +kernel
theorem dX7_passesAll_23 : decode cX7_passesAll 23 = .ok (.aload_n 0, 1) := by decide +kernel
theorem dX7_passesAll_24 : decode cX7_passesAll 24 = .ok (.getfield 16, 3) := by decide +kernel
theorem dX7_passesAll_27 : decode cX7_passesAll 27 = .ok (.invokevirtual 199, 3) := by decide +kernel
theorem dX7_passesAll_30 : decode cX7_passesAll 30 = .ok (.aload_n 0, 1) := by decide +kernel
theorem dX7_passesAll_31 : decode cX7_passesAll 31 = .ok (.aload_n 0, 1) := by decide +kernel
theorem dX7_passesAll_32 : decode cX7_passesAll 32 = .ok (.getfield 19, 3) := by decide +kernel
theorem dX7_passesAll_35 : decode cX7_passesAll 35 = .ok (.invokevirtual 199, 3) := by decide +kernel
theorem dX7_passesAll_38 : decode cX7_passesAll 38 = .ok (.aload_n 0, 1) := by decide +kernel
theorem dX7_passesAll_39 : decode cX7_passesAll 39 = .ok (.aload_n 0, 1) := by decide +kernel
theorem dX7_passesAll_40 : decode cX7_passesAll 40 = .ok (.getfield 22, 3) := by decide +kernel
theorem dX7_passesAll_43 : decode cX7_passesAll 43 = .ok (.invokevirtual 199, 3) := by decide +kernel
theorem dX7_passesAll_46 : decode cX7_passesAll 46 = .ok (.aload_n 0, 1) := by decide +kernel
theorem dX7_passesAll_47 : decode cX7_passesAll 47 = .ok (.aload_n 0, 1) := by decide +kernel
theorem dX7_passesAll_48 : decode cX7_passesAll 48 = .ok (.getfield 25, 3) := by decide +kernel
theorem dX7_passesAll_51 : decode cX7_passesAll 51 = .ok (.invokevirtual 199, 3) := by decide +kernel
theorem dX7_passesAll_54 : decode cX7_passesAll 54 = .ok (.aload_n 0, 1) := by decide +kernel
theorem dX7_passesAll_55 : decode cX7_passesAll 55 = .ok (.aload_n 0, 1) := by decide +kernel
theorem dX7_passesAll_56 : decode cX7_passesAll 56 = .ok (.getfield 28, 3) := by decide +kernel
theorem dX7_passesAll_59 : decode cX7_passesAll 59 = .ok (.invokevirtual 199, 3) := by decide +kernel
theorem dX7_passesAll_62 : decode cX7_passesAll 62 = .ok (.aload_n 0, 1) := by decide +kernel
theorem dX7_passesAll_63 : decode cX7_passesAll 63 = .ok (.aload_n 0, 1) := by decide +kernel
theorem dX7_passesAll_64 : decode cX7_passesAll 64 = .ok (.aload_n 0, 1) := by decide +kernel
theorem dX7_passesAll_65 : decode cX7_passesAll 65 = .ok (.getfield 86, 3) := by decide +kernel
theorem dX7_passesAll_68 : decode cX7_passesAll 68 = .ok (.invokevirtual 203, 3) := by decide +kernel
theorem dX7_passesAll_71 : decode cX7_passesAll 71 = .ok (.putfield 86, 3) := by decide +kernel
theorem dX7_passesAll_74 : decode cX7_passesAll 74 = .ok (.aload_n 0, 1) := by decide +kernel
theorem dX7_passesAll_75 : decode cX7_passesAll 75 = .ok (.aload_n 0, 1) := by decide +kernel
theorem dX7_passesAll_76 : decode cX7_passesAll 76 = .ok (.aload_n 0, 1) := by decide +kernel
theorem dX7_passesAll_77 : decode cX7_passesAll 77 = .ok (.getfield 100, 3) := by decide +kernel
theorem dX7_passesAll_80 : decode cX7_passesAll 80 = .ok (.invokevirtual 203, 3) := by decide +kernel
theorem dX7_passesAll_83 : decode cX7_passesAll 83 = .ok (.putfield 100, 3) := by decide +kernel
theorem dX7_passesAll_86 : decode cX7_passesAll 86 = .ok (.aload_n 0, 1) := by decide +kernel
theorem dX7_passesAll_87 : decode cX7_passesAll 87 = .ok (.aload_n 0, 1) := by decide +kernel
theorem dX7_passesAll_88 : decode cX7_passesAll 88 = .ok (.aload_n 0, 1) := by decide +kernel
theorem dX7_passesAll_89 : decode cX7_passesAll 89 = .ok (.getfield 176, 3) := by decide +kernel
theorem dX7_passesAll_92 : decode cX7_passesAll 92 = .ok (.invokevirtual 203, 3) := by decide +kernel
theorem dX7_passesAll_95 : decode cX7_passesAll 95 = .ok (.putfield 176, 3) := by decide +kernel
theorem dX7_passesAll_98 : decode cX7_passesAll 98 = .ok (.aload_n 0, 1) := by decide +kernel
theorem dX7_passesAll_99 : decode cX7_passesAll 99 = .ok (.aload_n 0, 1) := by decide +kernel
theorem dX7_passesAll_100 : decode cX7_passesAll 100 = .ok (.aload_n 0, 1) := by decide +kernel
theorem dX7_passesAll_101 : decode cX7_passesAll 101 = .ok (.getfield 90, 3) := by decide +kernel
theorem dX7_passesAll_104 : decode cX7_passesAll 104 = .ok (.invokevirtual 203, 3) := by decide +kernel
theorem dX7_passesAll_107 : decode cX7_passesAll 107 = .ok (.putfield 90, 3) := by decide +kernel
theorem dX7_passesAll_110 : decode cX7_passesAll 110 = .ok (.return_, 1) := by decide +kernel
theorem dX7_minds_0 : decode cX7_minds 0 = .ok (.aload_n 0, 1) := by decide +kernel
theorem dX7_minds_1 : decode cX7_minds 1 = .ok (.iconst 2, 1) := by decide +kernel
theorem dX7_minds_2 : decode cX7_minds 2 = .ok (.iconst 1, 1) := by decide +kernel
theorem dX7_minds_3 : decode cX7_minds 3 = .ok (.invokevirtual 206, 3) := by decide +kernel
theorem dX7_minds_6 : decode cX7_minds 6 = .ok (.return_, 1) := by decide +kernel
theorem dX7_forgets_0 : decode cX7_forgets 0 = .ok (.aload_n 0, 1) := by decide +kernel
theorem dX7_forgets_1 : decode cX7_forgets 1 = .ok (.iconst 2, 1) := by decide +kernel
theorem dX7_forgets_2 : decode cX7_forgets 2 = .ok (.iconst 0, 1) := by decide +kernel
theorem dX7_forgets_3 : decode cX7_forgets 3 = .ok (.invokevirtual 206, 3) := by decide +kernel
theorem dX7_forgets_6 : decode cX7_forgets 6 = .ok (.return_, 1) := by decide +kernel
theorem dX7_image_0 : decode cX7_image 0 = .ok (.aload_n 0, 1) := by decide +kernel
theorem dX7_image_1 : decode cX7_image 1 = .ok (.iconst 1, 1) := by decide +kernel
theorem dX7_image_2 : decode cX7_image 2 = .ok (.putfield 210, 3) := by decide +kernel
theorem dX7_image_5 : decode cX7_image 5 = .ok (.aload_n 0, 1) := by decide +kernel
theorem dX7_image_6 : decode cX7_image 6 = .ok (.iconst 0, 1) := by decide +kernel
theorem dX7_image_7 : decode cX7_image 7 = .ok (.iconst 1, 1) := by decide +kernel
theorem dX7_image_8 : decode cX7_image 8 = .ok (.invokevirtual 206, 3) := by decide +kernel
theorem dX7_image_11 : decode cX7_image 11 = .ok (.aload_n 0, 1) := by decide +kernel
theorem dX7_image_12 : decode cX7_image 12 = .ok (.getfield 100, 3) := by decide +kernel
theorem dX7_image_15 : decode cX7_image 15 = .ok (.ireturn, 1) := by decide +kernel
theorem dX7_on_0 : decode cX7_on 0 = .ok (.aload_n 0, 1) := by decide +kernel
theorem dX7_on_1 : decode cX7_on 1 = .ok (.getfield 210, 3) := by decide +kernel
theorem dX7_on_4 : decode cX7_on 4 = .ok (.ifCond .ne 10, 3) := by decide +kernel
theorem dX7_on_7 : decode cX7_on 7 = .ok (.aload_n 0, 1) := by decide +kernel
theorem dX7_on_8 : decode cX7_on 8 = .ok (.bipush (-3), 2) := by decide +kernel
theorem dX7_on_10 : decode cX7_on 10 = .ok (.invokevirtual 213, 3) := by decide +kernel
theorem dX7_on_13 : decode cX7_on 13 = .ok (.ireturn, 1) := by decide +kernel
theorem dX7_on_14 : decode cX7_on 14 = .ok (.aload_n 0, 1) := by decide +kernel
theorem dX7_on_15 : decode cX7_on 15 = .ok (.iconst 0, 1) := by decide +kernel
theorem dX7_on_16 : decode cX7_on 16 = .ok (.iconst 0, 1) := by decide +kernel
theorem dX7_on_17 : decode cX7_on 17 = .ok (.invokevirtual 206, 3) := by decide +kernel
theorem dX7_on_20 : decode cX7_on 20 = .ok (.aload_n 0, 1) := by decide +kernel
theorem dX7_on_21 : decode cX7_on 21 = .ok (.getfield 100, 3) := by decide +kernel
theorem dX7_on_24 : decode cX7_on 24 = .ok (.ireturn, 1) := by decide +kernel
theorem dX7_letter_0 : decode cX7_letter 0 = .ok (.iload_n 1, 1) := by decide +kernel
theorem dX7_letter_1 : decode cX7_letter 1 = .ok (.iconst 0, 1) := by decide +kernel
theorem dX7_letter_2 : decode cX7_letter 2 = .ok (.sipush 255, 3) := by decide +kernel
theorem dX7_letter_5 : decode cX7_letter 5 = .ok (.invokestatic 216, 3) := by decide +kernel
theorem dX7_letter_8 : decode cX7_letter 8 = .ok (.istore_n 2, 1) := by decide +kernel
theorem dX7_letter_9 : decode cX7_letter 9 = .ok (.iload_n 2, 1) := by decide +kernel
theorem dX7_letter_10 : decode cX7_letter 10 = .ok (.ifCond .ne 15, 3) := by decide +kernel
theorem dX7_letter_13 : decode cX7_letter 13 = .ok (.aload_n 0, 1) := by decide +kernel
theorem dX7_letter_14 : decode cX7_letter 14 = .ok (.getfield 220, 3) := by decide +kernel
theorem dX7_letter_17 : decode cX7_letter 17 = .ok (.bipush 96, 2) := by decide +kernel
theorem dX7_letter_19 : decode cX7_letter 19 = .ok (.if_icmp .ne 6, 3) := by decide +kernel
theorem dX7_letter_22 : decode cX7_letter 22 = .ok (.bipush (-6), 2) := by decide +kernel
theorem dX7_letter_24 : decode cX7_letter 24 = .ok (.istore_n 2, 1) := by decide +kernel
theorem dX7_letter_25 : decode cX7_letter 25 = .ok (.iload_n 2, 1) := by decide +kernel
theorem dX7_letter_26 : decode cX7_letter 26 = .ok (.ifCond .eq 9, 3) := by decide +kernel
theorem dX7_letter_29 : decode cX7_letter 29 = .ok (.aload_n 0, 1) := by decide +kernel
theorem dX7_letter_30 : decode cX7_letter 30 = .ok (.iload_n 2, 1) := by decide +kernel
theorem dX7_letter_31 : decode cX7_letter 31 = .ok (.invokevirtual 213, 3) := by decide +kernel
theorem dX7_letter_34 : decode cX7_letter 34 = .ok (.ireturn, 1) := by decide +kernel
theorem dX7_letter_35 : decode cX7_letter 35 = .ok (.aload_n 0, 1) := by decide +kernel
theorem dX7_letter_36 : decode cX7_letter 36 = .ok (.getfield 53, 3) := by decide +kernel
theorem dX7_letter_39 : decode cX7_letter 39 = .ok (.aload_n 0, 1) := by decide +kernel
theorem dX7_letter_40 : decode cX7_letter 40 = .ok (.getfield 220, 3) := by decide +kernel
theorem dX7_letter_43 : decode cX7_letter 43 = .ok (.iload_n 1, 1) := by decide +kernel
theorem dX7_letter_44 : decode cX7_letter 44 = .ok (.iastore, 1) := by decide +kernel
theorem dX7_letter_45 : decode cX7_letter 45 = .ok (.aload_n 0, 1) := by decide +kernel
theorem dX7_letter_46 : decode cX7_letter 46 = .ok (.dup, 1) := by decide +kernel
theorem dX7_letter_47 : decode cX7_letter 47 = .ok (.getfield 220, 3) := by decide +kernel
theorem dX7_letter_50 : decode cX7_letter 50 = .ok (.iconst 1, 1) := by decide +kernel
theorem dX7_letter_51 : decode cX7_letter 51 = .ok (.iadd, 1) := by decide +kernel
theorem dX7_letter_52 : decode cX7_letter 52 = .ok (.putfield 220, 3) := by decide +kernel
theorem dX7_letter_55 : decode cX7_letter 55 = .ok (.aload_n 0, 1) := by decide +kernel
theorem dX7_letter_56 : decode cX7_letter 56 = .ok (.getfield 220, 3) := by decide +kernel
theorem dX7_letter_59 : decode cX7_letter 59 = .ok (.ireturn, 1) := by decide +kernel
theorem dX7_letterNow_0 : decode cX7_letterNow 0 = .ok (.aload_n 0, 1) := by decide +kernel
theorem dX7_letterNow_1 : decode cX7_letterNow 1 = .ok (.getfield 223, 3) := by decide +kernel
theorem dX7_letterNow_4 : decode cX7_letterNow 4 = .ok (.aload_n 0, 1) := by decide +kernel
theorem dX7_letterNow_5 : decode cX7_letterNow 5 = .ok (.getfield 220, 3) := by decide +kernel
theorem dX7_letterNow_8 : decode cX7_letterNow 8 = .ok (.if_icmp .ge 15, 3) := by decide +kernel
theorem dX7_letterNow_11 : decode cX7_letterNow 11 = .ok (.aload_n 0, 1) := by decide +kernel
theorem dX7_letterNow_12 : decode cX7_letterNow 12 = .ok (.getfield 53, 3) := by decide +kernel
theorem dX7_letterNow_15 : decode cX7_letterNow 15 = .ok (.aload_n 0, 1) := by decide +kernel
theorem dX7_letterNow_16 : decode cX7_letterNow 16 = .ok (.getfield 223, 3) := by decide +kernel
theorem dX7_letterNow_19 : decode cX7_letterNow 19 = .ok (.iaload, 1) := by decide +kernel
theorem dX7_letterNow_20 : decode cX7_letterNow 20 = .ok (.goto 4, 3) := by decide +kernel
theorem dX7_letterNow_23 : decode cX7_letterNow 23 = .ok (.iconst (-1), 1) := by decide +kernel
theorem dX7_letterNow_24 : decode cX7_letterNow 24 = .ok (.ireturn, 1) := by decide +kernel
theorem dX7_readsDigits_0 : decode cX7_readsDigits 0 = .ok (.iconst 0, 1) := by decide +kernel
theorem dX7_readsDigits_1 : decode cX7_readsDigits 1 = .ok (.istore_n 2, 1) := by decide +kernel
theorem dX7_readsDigits_2 : decode cX7_readsDigits 2 = .ok (.iconst 0, 1) := by decide +kernel
theorem dX7_readsDigits_3 : decode cX7_readsDigits 3 = .ok (.istore_n 3, 1) := by decide +kernel
theorem dX7_readsDigits_4 : decode cX7_readsDigits 4 = .ok (.iload_n 3, 1) := by decide +kernel
theorem dX7_readsDigits_5 : decode cX7_readsDigits 5 = .ok (.iload_n 1, 1) := by decide +kernel
theorem dX7_readsDigits_6 : decode cX7_readsDigits 6 = .ok (.if_icmp .ge 48, 3) := by decide +kernel
theorem dX7_readsDigits_9 : decode cX7_readsDigits 9 = .ok (.aload_n 0, 1) := by decide +kernel
theorem dX7_readsDigits_10 : decode cX7_readsDigits 10 = .ok (.invokevirtual 226, 3) := by decide +kernel
theorem dX7_readsDigits_13 : decode cX7_readsDigits 13 = .ok (.bipush 48, 2) := by decide +kernel
theorem dX7_readsDigits_15 : decode cX7_readsDigits 15 = .ok (.bipush 57, 2) := by decide +kernel
theorem dX7_readsDigits_17 : decode cX7_readsDigits 17 = .ok (.invokestatic 96, 3) := by decide +kernel
theorem dX7_readsDigits_20 : decode cX7_readsDigits 20 = .ok (.ifCond .ne 5, 3) := by decide +kernel
theorem dX7_readsDigits_23 : decode cX7_readsDigits 23 = .ok (.iconst 0, 1) := by decide +kernel
theorem dX7_readsDigits_24 : decode cX7_readsDigits 24 = .ok (.ireturn, 1) := by decide +kernel
theorem dX7_readsDigits_25 : decode cX7_readsDigits 25 = .ok (.bipush 10, 2) := by decide +kernel
theorem dX7_readsDigits_27 : decode cX7_readsDigits 27 = .ok (.iload_n 2, 1) := by decide +kernel
theorem dX7_readsDigits_28 : decode cX7_readsDigits 28 = .ok (.imul, 1) := by decide +kernel
theorem dX7_readsDigits_29 : decode cX7_readsDigits 29 = .ok (.aload_n 0, 1) := by decide +kernel
theorem dX7_readsDigits_30 : decode cX7_readsDigits 30 = .ok (.invokevirtual 226, 3) := by decide +kernel
theorem dX7_readsDigits_33 : decode cX7_readsDigits 33 = .ok (.iadd, 1) := by decide +kernel
theorem dX7_readsDigits_34 : decode cX7_readsDigits 34 = .ok (.bipush 48, 2) := by decide +kernel
theorem dX7_readsDigits_36 : decode cX7_readsDigits 36 = .ok (.isub, 1) := by decide +kernel
theorem dX7_readsDigits_37 : decode cX7_readsDigits 37 = .ok (.istore_n 2, 1) := by decide +kernel
theorem dX7_readsDigits_38 : decode cX7_readsDigits 38 = .ok (.aload_n 0, 1) := by decide +kernel
theorem dX7_readsDigits_39 : decode cX7_readsDigits 39 = .ok (.dup, 1) := by decide +kernel
theorem dX7_readsDigits_40 : decode cX7_readsDigits 40 = .ok (.getfield 223, 3) := by decide +kernel
theorem dX7_readsDigits_43 : decode cX7_readsDigits 43 = .ok (.iconst 1, 1) := by decide +kernel
theorem dX7_readsDigits_44 : decode cX7_readsDigits 44 = .ok (.iadd, 1) := by decide +kernel
theorem dX7_readsDigits_45 : decode cX7_readsDigits 45 = .ok (.putfield 223, 3) := by decide +kernel
theorem dX7_readsDigits_48 : decode cX7_readsDigits 48 = .ok (.iinc 3 1, 3) := by decide +kernel
theorem dX7_readsDigits_51 : decode cX7_readsDigits 51 = .ok (.goto (-47), 3) := by decide +kernel
theorem dX7_readsDigits_54 : decode cX7_readsDigits 54 = .ok (.aload_n 0, 1) := by decide +kernel
theorem dX7_readsDigits_55 : decode cX7_readsDigits 55 = .ok (.getfield 62, 3) := by decide +kernel
theorem dX7_readsDigits_58 : decode cX7_readsDigits 58 = .ok (.aload_n 0, 1) := by decide +kernel
theorem dX7_readsDigits_59 : decode cX7_readsDigits 59 = .ok (.getfield 229, 3) := by decide +kernel
theorem dX7_readsDigits_62 : decode cX7_readsDigits 62 = .ok (.iload_n 2, 1) := by decide +kernel
theorem dX7_readsDigits_63 : decode cX7_readsDigits 63 = .ok (.iastore, 1) := by decide +kernel
theorem dX7_readsDigits_64 : decode cX7_readsDigits 64 = .ok (.aload_n 0, 1) := by decide +kernel
theorem dX7_readsDigits_65 : decode cX7_readsDigits 65 = .ok (.dup, 1) := by decide +kernel
theorem dX7_readsDigits_66 : decode cX7_readsDigits 66 = .ok (.getfield 229, 3) := by decide +kernel
theorem dX7_readsDigits_69 : decode cX7_readsDigits 69 = .ok (.iconst 1, 1) := by decide +kernel
theorem dX7_readsDigits_70 : decode cX7_readsDigits 70 = .ok (.iadd, 1) := by decide +kernel
theorem dX7_readsDigits_71 : decode cX7_readsDigits 71 = .ok (.putfield 229, 3) := by decide +kernel
theorem dX7_readsDigits_74 : decode cX7_readsDigits 74 = .ok (.iconst 1, 1) := by decide +kernel
theorem dX7_readsDigits_75 : decode cX7_readsDigits 75 = .ok (.ireturn, 1) := by decide +kernel
theorem dX7_readsMany_0 : decode cX7_readsMany 0 = .ok (.iconst 0, 1) := by decide +kernel
theorem dX7_readsMany_1 : decode cX7_readsMany 1 = .ok (.istore_n 2, 1) := by decide +kernel
theorem dX7_readsMany_2 : decode cX7_readsMany 2 = .ok (.iload_n 2, 1) := by decide +kernel
theorem dX7_readsMany_3 : decode cX7_readsMany 3 = .ok (.iload_n 1, 1) := by decide +kernel
theorem dX7_readsMany_4 : decode cX7_readsMany 4 = .ok (.if_icmp .ge 19, 3) := by decide +kernel
theorem dX7_readsMany_7 : decode cX7_readsMany 7 = .ok (.aload_n 0, 1) := by decide +kernel
theorem dX7_readsMany_8 : decode cX7_readsMany 8 = .ok (.iconst 1, 1) := by decide +kernel
theorem dX7_readsMany_9 : decode cX7_readsMany 9 = .ok (.invokevirtual 232, 3) := by decide +kernel
theorem dX7_readsMany_12 : decode cX7_readsMany 12 = .ok (.ifCond .ne 5, 3) := by decide +kernel
theorem dX7_readsMany_15 : decode cX7_readsMany 15 = .ok (.iconst 0, 1) := by decide +kernel
theorem dX7_readsMany_16 : decode cX7_readsMany 16 = .ok (.ireturn, 1) := by decide +kernel
theorem dX7_readsMany_17 : decode cX7_readsMany 17 = .ok (.iinc 2 1, 3) := by decide +kernel
theorem dX7_readsMany_20 : decode cX7_readsMany 20 = .ok (.goto (-18), 3) := by decide +kernel
theorem dX7_readsMany_23 : decode cX7_readsMany 23 = .ok (.iconst 1, 1) := by decide +kernel
theorem dX7_readsMany_24 : decode cX7_readsMany 24 = .ok (.ireturn, 1) := by decide +kernel
theorem dX7_readsAll_0 : decode cX7_readsAll 0 = .ok (.iload_n 1, 1) := by decide +kernel
theorem dX7_readsAll_1 : decode cX7_readsAll 1 = .ok (.lookupswitch 130 #[(98, 81), (99, 59), (108, 117), (114, 111), (118, 59), (119, 123)], 59) := by decide +kernel
theorem dX7_readsAll_60 : decode cX7_readsAll 60 = .ok (.aload_n 0, 1) := by decide +kernel
theorem dX7_readsAll_61 : decode cX7_readsAll 61 = .ok (.iconst 1, 1) := by decide +kernel
theorem dX7_readsAll_62 : decode cX7_readsAll 62 = .ok (.invokevirtual 232, 3) := by decide +kernel
theorem dX7_readsAll_65 : decode cX7_readsAll 65 = .ok (.ifCond .eq 15, 3) := by decide +kernel
theorem dX7_readsAll_68 : decode cX7_readsAll 68 = .ok (.aload_n 0, 1) := by decide +kernel
theorem dX7_readsAll_69 : decode cX7_readsAll 69 = .ok (.iconst 2, 1) := by decide +kernel
theorem dX7_readsAll_70 : decode cX7_readsAll 70 = .ok (.invokevirtual 232, 3) := by decide +kernel
theorem dX7_readsAll_73 : decode cX7_readsAll 73 = .ok (.ifCond .eq 7, 3) := by decide +kernel
theorem dX7_readsAll_76 : decode cX7_readsAll 76 = .ok (.iconst 1, 1) := by decide +kernel
theorem dX7_readsAll_77 : decode cX7_readsAll 77 = .ok (.goto 4, 3) := by decide +kernel
theorem dX7_readsAll_80 : decode cX7_readsAll 80 = .ok (.iconst 0, 1) := by decide +kernel
theorem dX7_readsAll_81 : decode cX7_readsAll 81 = .ok (.ireturn, 1) := by decide +kernel
theorem dX7_readsAll_82 : decode cX7_readsAll 82 = .ok (.aload_n 0, 1) := by decide +kernel
theorem dX7_readsAll_83 : decode cX7_readsAll 83 = .ok (.iconst 2, 1) := by decide +kernel
theorem dX7_readsAll_84 : decode cX7_readsAll 84 = .ok (.invokevirtual 232, 3) := by decide +kernel
theorem dX7_readsAll_87 : decode cX7_readsAll 87 = .ok (.ifCond .eq 23, 3) := by decide +kernel
theorem dX7_readsAll_90 : decode cX7_readsAll 90 = .ok (.aload_n 0, 1) := by decide +kernel
theorem dX7_readsAll_91 : decode cX7_readsAll 91 = .ok (.iconst 2, 1) := by decide +kernel
theorem dX7_readsAll_92 : decode cX7_readsAll 92 = .ok (.invokevirtual 232, 3) := by decide +kernel
theorem dX7_readsAll_95 : decode cX7_readsAll 95 = .ok (.ifCond .eq 15, 3) := by decide +kernel
theorem dX7_readsAll_98 : decode cX7_readsAll 98 = .ok (.aload_n 0, 1) := by decide +kernel
theorem dX7_readsAll_99 : decode cX7_readsAll 99 = .ok (.iconst 2, 1) := by decide +kernel
theorem dX7_readsAll_100 : decode cX7_readsAll 100 = .ok (.invokevirtual 232, 3) := by decide +kernel
theorem dX7_readsAll_103 : decode cX7_readsAll 103 = .ok (.ifCond .eq 7, 3) := by decide +kernel
theorem dX7_readsAll_106 : decode cX7_readsAll 106 = .ok (.iconst 1, 1) := by decide +kernel
theorem dX7_readsAll_107 : decode cX7_readsAll 107 = .ok (.goto 4, 3) := by decide +kernel
theorem dX7_readsAll_110 : decode cX7_readsAll 110 = .ok (.iconst 0, 1) := by decide +kernel
theorem dX7_readsAll_111 : decode cX7_readsAll 111 = .ok (.ireturn, 1) := by decide +kernel
theorem dX7_readsAll_112 : decode cX7_readsAll 112 = .ok (.aload_n 0, 1) := by decide +kernel
theorem dX7_readsAll_113 : decode cX7_readsAll 113 = .ok (.iconst 1, 1) := by decide +kernel
theorem dX7_readsAll_114 : decode cX7_readsAll 114 = .ok (.invokevirtual 232, 3) := by decide +kernel
theorem dX7_readsAll_117 : decode cX7_readsAll 117 = .ok (.ireturn, 1) := by decide +kernel
theorem dX7_readsAll_118 : decode cX7_readsAll 118 = .ok (.aload_n 0, 1) := by decide +kernel
theorem dX7_readsAll_119 : decode cX7_readsAll 119 = .ok (.iconst 2, 1) := by decide +kernel
theorem dX7_readsAll_120 : decode cX7_readsAll 120 = .ok (.invokevirtual 232, 3) := by decide +kernel
theorem dX7_readsAll_123 : decode cX7_readsAll 123 = .ok (.ireturn, 1) := by decide +kernel
theorem dX7_readsAll_124 : decode cX7_readsAll 124 = .ok (.aload_n 0, 1) := by decide +kernel
theorem dX7_readsAll_125 : decode cX7_readsAll 125 = .ok (.bipush 9, 2) := by decide +kernel
theorem dX7_readsAll_127 : decode cX7_readsAll 127 = .ok (.invokevirtual 235, 3) := by decide +kernel
theorem dX7_readsAll_130 : decode cX7_readsAll 130 = .ok (.ireturn, 1) := by decide +kernel
theorem dX7_readsAll_131 : decode cX7_readsAll 131 = .ok (.aload_n 0, 1) := by decide +kernel
theorem dX7_readsAll_132 : decode cX7_readsAll 132 = .ok (.bipush 8, 2) := by decide +kernel
theorem dX7_readsAll_134 : decode cX7_readsAll 134 = .ok (.invokevirtual 235, 3) := by decide +kernel
theorem dX7_readsAll_137 : decode cX7_readsAll 137 = .ok (.ireturn, 1) := by decide +kernel
theorem dX7_statement_0 : decode cX7_statement 0 = .ok (.aload_n 0, 1) := by decide +kernel
theorem dX7_statement_1 : decode cX7_statement 1 = .ok (.invokevirtual 226, 3) := by decide +kernel
theorem dX7_statement_4 : decode cX7_statement 4 = .ok (.istore_n 1, 1) := by decide +kernel
theorem dX7_statement_5 : decode cX7_statement 5 = .ok (.iload_n 1, 1) := by decide +kernel
theorem dX7_statement_6 : decode cX7_statement 6 = .ok (.bipush 118, 2) := by decide +kernel
theorem dX7_statement_8 : decode cX7_statement 8 = .ok (.if_icmp .eq 47, 3) := by decide +kernel
theorem dX7_statement_11 : decode cX7_statement 11 = .ok (.iload_n 1, 1) := by decide +kernel
theorem dX7_statement_12 : decode cX7_statement 12 = .ok (.bipush 99, 2) := by decide +kernel
theorem dX7_statement_14 : decode cX7_statement 14 = .ok (.if_icmp .eq 41, 3) := by decide +kernel
theorem dX7_statement_17 : decode cX7_statement 17 = .ok (.iload_n 1, 1) := by decide +kernel
theorem dX7_statement_18 : decode cX7_statement 18 = .ok (.bipush 98, 2) := by decide +kernel
theorem dX7_statement_20 : decode cX7_statement 20 = .ok (.if_icmp .eq 35, 3) := by decide +kernel
theorem dX7_statement_23 : decode cX7_statement 23 = .ok (.iload_n 1, 1) := by decide +kernel
theorem dX7_statement_24 : decode cX7_statement 24 = .ok (.bipush 114, 2) := by decide +kernel
theorem dX7_statement_26 : decode cX7_statement 26 = .ok (.if_icmp .eq 29, 3) := by decide +kernel
