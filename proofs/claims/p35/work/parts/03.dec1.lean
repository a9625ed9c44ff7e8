theorem dX6_tells_37 : decode cX6_tells 37 = .ok (.iload_n 1, 1) := by decide +kernel
theorem dX6_tells_38 : decode cX6_tells 38 = .ok (.iload_n 2, 1) := by decide +kernel
theorem dX6_tells_39 : decode cX6_tells 39 = .ok (.invokevirtual 119, 3) := by decide +kernel
theorem dX6_tells_42 : decode cX6_tells 42 = .ok (.ifCond .eq 8, 3) := by decide +kernel
theorem dX6_tells_45 : decode cX6_tells 45 = .ok (.iload 4, 2) := by decide +kernel
theorem dX6_tells_47 : decode cX6_tells 47 = .ok (.goto 9, 3) := by decide +kernel
theorem dX6_tells_50 : decode cX6_tells 50 = .ok (.aload_n 0, 1) := by decide +kernel
theorem dX6_tells_51 : decode cX6_tells 51 = .ok (.bipush (-3), 2) := by decide +kernel
theorem dX6_tells_53 : decode cX6_tells 53 = .ok (.invokevirtual 73, 3) := by decide +kernel
theorem dX6_tells_56 : decode cX6_tells 56 = .ok (.ireturn, 1) := by decide +kernel
theorem dX6_changes_0 : decode cX6_changes 0 = .ok (.iload_n 1, 1) := by decide +kernel
theorem dX6_changes_1 : decode cX6_changes 1 = .ok (.iload_n 2, 1) := by decide +kernel
theorem dX6_changes_2 : decode cX6_changes 2 = .ok (.invokestatic 116, 3) := by decide +kernel
theorem dX6_changes_5 : decode cX6_changes 5 = .ok (.istore_n 3, 1) := by decide +kernel
theorem dX6_changes_6 : decode cX6_changes 6 = .ok (.iload_n 3, 1) := by decide +kernel
theorem dX6_changes_7 : decode cX6_changes 7 = .ok (.ifCond .eq 9, 3) := by decide +kernel
theorem dX6_changes_10 : decode cX6_changes 10 = .ok (.aload_n 0, 1) := by decide +kernel
theorem dX6_changes_11 : decode cX6_changes 11 = .ok (.iload_n 3, 1) := by decide +kernel
theorem dX6_changes_12 : decode cX6_changes 12 = .ok (.invokevirtual 73, 3) := by decide +kernel
theorem dX6_changes_15 : decode cX6_changes 15 = .ok (.ireturn, 1) := by decide +kernel
theorem dX6_changes_16 : decode cX6_changes 16 = .ok (.aload_n 0, 1) := by decide +kernel
theorem dX6_changes_17 : decode cX6_changes 17 = .ok (.getfield 10, 3) := by decide +kernel
theorem dX6_changes_20 : decode cX6_changes 20 = .ok (.iload_n 1, 1) := by decide +kernel
theorem dX6_changes_21 : decode cX6_changes 21 = .ok (.iload_n 2, 1) := by decide +kernel
theorem dX6_changes_22 : decode cX6_changes 22 = .ok (.invokevirtual 122, 3) := by decide +kernel
theorem dX6_changes_25 : decode cX6_changes 25 = .ok (.ifCond .eq 14, 3) := by decide +kernel
theorem dX6_changes_28 : decode cX6_changes 28 = .ok (.aload_n 0, 1) := by decide +kernel
theorem dX6_changes_29 : decode cX6_changes 29 = .ok (.getfield 10, 3) := by decide +kernel
theorem dX6_changes_32 : decode cX6_changes 32 = .ok (.iload_n 1, 1) := by decide +kernel
theorem dX6_changes_33 : decode cX6_changes 33 = .ok (.invokevirtual 77, 3) := by decide +kernel
theorem dX6_changes_36 : decode cX6_changes 36 = .ok (.goto 9, 3) := by decide +kernel
theorem dX6_changes_39 : decode cX6_changes 39 = .ok (.aload_n 0, 1) := by decide +kernel
theorem dX6_changes_40 : decode cX6_changes 40 = .ok (.bipush (-6), 2) := by decide +kernel
theorem dX6_changes_42 : decode cX6_changes 42 = .ok (.invokevirtual 73, 3) := by decide +kernel
theorem dX6_changes_45 : decode cX6_changes 45 = .ok (.ireturn, 1) := by decide +kernel
theorem dX6_misfitOfValue_0 : decode cX6_misfitOfValue 0 = .ok (.iload_n 0, 1) := by decide +kernel
theorem dX6_misfitOfValue_1 : decode cX6_misfitOfValue 1 = .ok (.bipush 8, 2) := by decide +kernel
theorem dX6_misfitOfValue_3 : decode cX6_misfitOfValue 3 = .ok (.invokestatic 69, 3) := by decide +kernel
theorem dX6_misfitOfValue_6 : decode cX6_misfitOfValue 6 = .ok (.ifCond .ne 5, 3) := by decide +kernel
theorem dX6_misfitOfValue_9 : decode cX6_misfitOfValue 9 = .ok (.iconst (-1), 1) := by decide +kernel
theorem dX6_misfitOfValue_10 : decode cX6_misfitOfValue 10 = .ok (.ireturn, 1) := by decide +kernel
theorem dX6_misfitOfValue_11 : decode cX6_misfitOfValue 11 = .ok (.iload_n 1, 1) := by decide +kernel
theorem dX6_misfitOfValue_12 : decode cX6_misfitOfValue 12 = .ok (.iconst 0, 1) := by decide +kernel
theorem dX6_misfitOfValue_13 : decode cX6_misfitOfValue 13 = .ok (.bipush 99, 2) := by decide +kernel
theorem dX6_misfitOfValue_15 : decode cX6_misfitOfValue 15 = .ok (.invokestatic 125, 3) := by decide +kernel
theorem dX6_misfitOfValue_18 : decode cX6_misfitOfValue 18 = .ok (.ireturn, 1) := by decide +kernel
theorem dX6_bounds_0 : decode cX6_bounds 0 = .ok (.aload_n 0, 1) := by decide +kernel
theorem dX6_bounds_1 : decode cX6_bounds 1 = .ok (.getfield 10, 3) := by decide +kernel
theorem dX6_bounds_4 : decode cX6_bounds 4 = .ok (.iload_n 1, 1) := by decide +kernel
theorem dX6_bounds_5 : decode cX6_bounds 5 = .ok (.invokevirtual 91, 3) := by decide +kernel
theorem dX6_bounds_8 : decode cX6_bounds 8 = .ok (.ifCond .ne 9, 3) := by decide +kernel
theorem dX6_bounds_11 : decode cX6_bounds 11 = .ok (.aload_n 0, 1) := by decide +kernel
theorem dX6_bounds_12 : decode cX6_bounds 12 = .ok (.iconst (-1), 1) := by decide +kernel
theorem dX6_bounds_13 : decode cX6_bounds 13 = .ok (.invokevirtual 73, 3) := by decide +kernel
theorem dX6_bounds_16 : decode cX6_bounds 16 = .ok (.ireturn, 1) := by decide +kernel
theorem dX6_bounds_17 : decode cX6_bounds 17 = .ok (.iload_n 2, 1) := by decide +kernel
theorem dX6_bounds_18 : decode cX6_bounds 18 = .ok (.ifCond .lt 7, 3) := by decide +kernel
theorem dX6_bounds_21 : decode cX6_bounds 21 = .ok (.iload_n 3, 1) := by decide +kernel
theorem dX6_bounds_22 : decode cX6_bounds 22 = .ok (.ifCond .ge 10, 3) := by decide +kernel
theorem dX6_bounds_25 : decode cX6_bounds 25 = .ok (.aload_n 0, 1) := by decide +kernel
theorem dX6_bounds_26 : decode cX6_bounds 26 = .ok (.bipush (-4), 2) := by decide +kernel
theorem dX6_bounds_28 : decode cX6_bounds 28 = .ok (.invokevirtual 73, 3) := by decide +kernel
theorem dX6_bounds_31 : decode cX6_bounds 31 = .ok (.ireturn, 1) := by decide +kernel
theorem dX6_bounds_32 : decode cX6_bounds 32 = .ok (.iload_n 2, 1) := by decide +kernel
theorem dX6_bounds_33 : decode cX6_bounds 33 = .ok (.bipush 99, 2) := by decide +kernel
theorem dX6_bounds_35 : decode cX6_bounds 35 = .ok (.if_icmp .gt 9, 3) := by decide +kernel
theorem dX6_bounds_38 : decode cX6_bounds 38 = .ok (.iload_n 3, 1) := by decide +kernel
theorem dX6_bounds_39 : decode cX6_bounds 39 = .ok (.bipush 99, 2) := by decide +kernel
theorem dX6_bounds_41 : decode cX6_bounds 41 = .ok (.if_icmp .le 10, 3) := by decide +kernel
theorem dX6_bounds_44 : decode cX6_bounds 44 = .ok (.aload_n 0, 1) := by decide +kernel
theorem dX6_bounds_45 : decode cX6_bounds 45 = .ok (.bipush (-6), 2) := by decide +kernel
theorem dX6_bounds_47 : decode cX6_bounds 47 = .ok (.invokevirtual 73, 3) := by decide +kernel
theorem dX6_bounds_50 : decode cX6_bounds 50 = .ok (.ireturn, 1) := by decide +kernel
theorem dX6_bounds_51 : decode cX6_bounds 51 = .ok (.aload_n 0, 1) := by decide +kernel
theorem dX6_bounds_52 : decode cX6_bounds 52 = .ok (.getfield 10, 3) := by decide +kernel
theorem dX6_bounds_55 : decode cX6_bounds 55 = .ok (.iload_n 1, 1) := by decide +kernel
theorem dX6_bounds_56 : decode cX6_bounds 56 = .ok (.iload_n 2, 1) := by decide +kernel
theorem dX6_bounds_57 : decode cX6_bounds 57 = .ok (.iload_n 3, 1) := by decide +kernel
theorem dX6_bounds_58 : decode cX6_bounds 58 = .ok (.invokevirtual 129, 3) := by decide +kernel
theorem dX6_bounds_61 : decode cX6_bounds 61 = .ok (.ifCond .eq 7, 3) := by decide +kernel
theorem dX6_bounds_64 : decode cX6_bounds 64 = .ok (.iconst 1, 1) := by decide +kernel
theorem dX6_bounds_65 : decode cX6_bounds 65 = .ok (.goto 9, 3) := by decide +kernel
theorem dX6_bounds_68 : decode cX6_bounds 68 = .ok (.aload_n 0, 1) := by decide +kernel
theorem dX6_bounds_69 : decode cX6_bounds 69 = .ok (.bipush (-3), 2) := by decide +kernel
theorem dX6_bounds_71 : decode cX6_bounds 71 = .ok (.invokevirtual 73, 3) := by decide +kernel
theorem dX6_bounds_74 : decode cX6_bounds 74 = .ok (.ireturn, 1) := by decide +kernel
theorem dX6_rule_0 : decode cX6_rule 0 = .ok (.aload_n 0, 1) := by decide +kernel
theorem dX6_rule_1 : decode cX6_rule 1 = .ok (.getfield 10, 3) := by decide +kernel
theorem dX6_rule_4 : decode cX6_rule 4 = .ok (.getfield 133, 3) := by decide +kernel
theorem dX6_rule_7 : decode cX6_rule 7 = .ok (.istore_n 2, 1) := by decide +kernel
theorem dX6_rule_8 : decode cX6_rule 8 = .ok (.aload_n 0, 1) := by decide +kernel
theorem dX6_rule_9 : decode cX6_rule 9 = .ok (.getfield 10, 3) := by decide +kernel
theorem dX6_rule_12 : decode cX6_rule 12 = .ok (.iload_n 1, 1) := by decide +kernel
theorem dX6_rule_13 : decode cX6_rule 13 = .ok (.invokevirtual 137, 3) := by decide +kernel
theorem dX6_rule_16 : decode cX6_rule 16 = .ok (.ifCond .eq 7, 3) := by decide +kernel
theorem dX6_rule_19 : decode cX6_rule 19 = .ok (.iload_n 2, 1) := by decide +kernel
theorem dX6_rule_20 : decode cX6_rule 20 = .ok (.goto 9, 3) := by decide +kernel
theorem dX6_rule_23 : decode cX6_rule 23 = .ok (.aload_n 0, 1) := by decide +kernel
theorem dX6_rule_24 : decode cX6_rule 24 = .ok (.bipush (-2), 2) := by decide +kernel
theorem dX6_rule_26 : decode cX6_rule 26 = .ok (.invokevirtual 73, 3) := by decide +kernel
theorem dX6_rule_29 : decode cX6_rule 29 = .ok (.ireturn, 1) := by decide +kernel
theorem dX6_limit_0 : decode cX6_limit 0 = .ok (.iload_n 1, 1) := by decide +kernel
theorem dX6_limit_1 : decode cX6_limit 1 = .ok (.iconst 0, 1) := by decide +kernel
theorem dX6_limit_2 : decode cX6_limit 2 = .ok (.bipush 10, 2) := by decide +kernel
theorem dX6_limit_4 : decode cX6_limit 4 = .ok (.invokestatic 125, 3) := by decide +kernel
theorem dX6_limit_7 : decode cX6_limit 7 = .ok (.istore_n 2, 1) := by decide +kernel
theorem dX6_limit_8 : decode cX6_limit 8 = .ok (.iload_n 2, 1) := by decide +kernel
theorem dX6_limit_9 : decode cX6_limit 9 = .ok (.ifCond .eq 9, 3) := by decide +kernel
theorem dX6_limit_12 : decode cX6_limit 12 = .ok (.aload_n 0, 1) := by decide +kernel
theorem dX6_limit_13 : decode cX6_limit 13 = .ok (.iload_n 2, 1) := by decide +kernel
theorem dX6_limit_14 : decode cX6_limit 14 = .ok (.invokevirtual 73, 3) := by decide +kernel
theorem dX6_limit_17 : decode cX6_limit 17 = .ok (.ireturn, 1) := by decide +kernel
theorem dX6_limit_18 : decode cX6_limit 18 = .ok (.aload_n 0, 1) := by decide +kernel
theorem dX6_limit_19 : decode cX6_limit 19 = .ok (.getfield 10, 3) := by decide +kernel
theorem dX6_limit_22 : decode cX6_limit 22 = .ok (.getfield 140, 3) := by decide +kernel
theorem dX6_limit_25 : decode cX6_limit 25 = .ok (.istore_n 3, 1) := by decide +kernel
theorem dX6_limit_26 : decode cX6_limit 26 = .ok (.aload_n 0, 1) := by decide +kernel
theorem dX6_limit_27 : decode cX6_limit 27 = .ok (.getfield 10, 3) := by decide +kernel
theorem dX6_limit_30 : decode cX6_limit 30 = .ok (.iload_n 1, 1) := by decide +kernel
theorem dX6_limit_31 : decode cX6_limit 31 = .ok (.invokevirtual 143, 3) := by decide +kernel
theorem dX6_limit_34 : decode cX6_limit 34 = .ok (.pop, 1) := by decide +kernel
theorem dX6_limit_35 : decode cX6_limit 35 = .ok (.iload_n 3, 1) := by decide +kernel
theorem dX6_limit_36 : decode cX6_limit 36 = .ok (.ireturn, 1) := by decide +kernel
theorem dX6_ask_0 : decode cX6_ask 0 = .ok (.iload_n 1, 1) := by decide +kernel
theorem dX6_ask_1 : decode cX6_ask 1 = .ok (.iload_n 2, 1) := by decide +kernel
theorem dX6_ask_2 : decode cX6_ask 2 = .ok (.iload_n 3, 1) := by decide +kernel
theorem dX6_ask_3 : decode cX6_ask 3 = .ok (.invokestatic 146, 3) := by decide +kernel
theorem dX6_ask_6 : decode cX6_ask 6 = .ok (.istore 4, 2) := by decide +kernel
theorem dX6_ask_8 : decode cX6_ask 8 = .ok (.iload 4, 2) := by decide +kernel
theorem dX6_ask_10 : decode cX6_ask 10 = .ok (.ifCond .eq 13, 3) := by decide +kernel
theorem dX6_ask_13 : decode cX6_ask 13 = .ok (.ldc 149, 2) := by decide +kernel
theorem dX6_ask_15 : decode cX6_ask 15 = .ok (.aload_n 0, 1) := by decide +kernel
theorem dX6_ask_16 : decode cX6_ask 16 = .ok (.iload 4, 2) := by decide +kernel
theorem dX6_ask_18 : decode cX6_ask 18 = .ok (.invokevirtual 73, 3) := by decide +kernel
theorem dX6_ask_21 : decode cX6_ask 21 = .ok (.isub, 1) := by decide +kernel
theorem dX6_ask_22 : decode cX6_ask 22 = .ok (.ireturn, 1) := by decide +kernel
theorem dX6_ask_23 : decode cX6_ask 23 = .ok (.aload_n 0, 1) := by decide +kernel
theorem dX6_ask_24 : decode cX6_ask 24 = .ok (.getfield 25, 3) := by decide +kernel
theorem dX6_ask_27 : decode cX6_ask 27 = .ok (.iload_n 1, 1) := by decide +kernel
theorem dX6_ask_28 : decode cX6_ask 28 = .ok (.iload_n 2, 1) := by decide +kernel
theorem dX6_ask_29 : decode cX6_ask 29 = .ok (.iload_n 3, 1) := by decide +kernel
theorem dX6_ask_30 : decode cX6_ask 30 = .ok (.invokevirtual 150, 3) := by decide +kernel
theorem dX6_ask_33 : decode cX6_ask 33 = .ok (.aload_n 0, 1) := by decide +kernel
theorem dX6_ask_34 : decode cX6_ask 34 = .ok (.getfield 10, 3) := by decide +kernel
theorem dX6_ask_37 : decode cX6_ask 37 = .ok (.aload_n 0, 1) := by decide +kernel
theorem dX6_ask_38 : decode cX6_ask 38 = .ok (.getfield 25, 3) := by decide +kernel
theorem dX6_ask_41 : decode cX6_ask 41 = .ok (.invokevirtual 154, 3) := by decide +kernel
theorem dX6_ask_44 : decode cX6_ask 44 = .ok (.iconst 2, 1) := by decide +kernel
theorem dX6_ask_45 : decode cX6_ask 45 = .ok (.if_icmp .ne 13, 3) := by decide +kernel
theorem dX6_ask_48 : decode cX6_ask 48 = .ok (.ldc 149, 2) := by decide +kernel
theorem dX6_ask_50 : decode cX6_ask 50 = .ok (.aload_n 0, 1) := by decide +kernel
theorem dX6_ask_51 : decode cX6_ask 51 = .ok (.bipush (-5), 2) := by decide +kernel
theorem dX6_ask_53 : decode cX6_ask 53 = .ok (.invokevirtual 73, 3) := by decide +kernel
theorem dX6_ask_56 : decode cX6_ask 56 = .ok (.isub, 1) := by decide +kernel
theorem dX6_ask_57 : decode cX6_ask 57 = .ok (.ireturn, 1) := by decide +kernel
theorem dX6_ask_58 : decode cX6_ask 58 = .ok (.aload_n 0, 1) := by decide +kernel
theorem dX6_ask_59 : decode cX6_ask 59 = .ok (.getfield 10, 3) := by decide +kernel
theorem dX6_ask_62 : decode cX6_ask 62 = .ok (.aload_n 0, 1) := by decide +kernel
theorem dX6_ask_63 : decode cX6_ask 63 = .ok (.getfield 25, 3) := by decide +kernel
theorem dX6_ask_66 : decode cX6_ask 66 = .ok (.invokevirtual 158, 3) := by decide +kernel
theorem dX6_ask_69 : decode cX6_ask 69 = .ok (.ireturn, 1) := by decide +kernel
theorem dX6_would_0 : decode cX6_would 0 = .ok (.iload_n 1, 1) := by decide +kernel
theorem dX6_would_1 : decode cX6_would 1 = .ok (.iload_n 2, 1) := by decide +kernel
theorem dX6_would_2 : decode cX6_would 2 = .ok (.iload_n 3, 1) := by decide +kernel
theorem dX6_would_3 : decode cX6_would 3 = .ok (.invokestatic 146, 3) := by decide +kernel
theorem dX6_would_6 : decode cX6_would 6 = .ok (.istore 4, 2) := by decide +kernel
theorem dX6_would_8 : decode cX6_would 8 = .ok (.iload 4, 2) := by decide +kernel
theorem dX6_would_10 : decode cX6_would 10 = .ok (.ifCond .eq 10, 3) := by decide +kernel
theorem dX6_would_13 : decode cX6_would 13 = .ok (.aload_n 0, 1) := by decide +kernel
theorem dX6_would_14 : decode cX6_would 14 = .ok (.iload 4, 2) := by decide +kernel
theorem dX6_would_16 : decode cX6_would 16 = .ok (.invokevirtual 73, 3) := by decide +kernel
theorem dX6_would_19 : decode cX6_would 19 = .ok (.ireturn, 1) := by decide +kernel
theorem dX6_would_20 : decode cX6_would 20 = .ok (.aload_n 0, 1) := by decide +kernel
theorem dX6_would_21 : decode cX6_would 21 = .ok (.getfield 25, 3) := by decide +kernel
theorem dX6_would_24 : decode cX6_would 24 = .ok (.iload_n 1, 1) := by decide +kernel
theorem dX6_would_25 : decode cX6_would 25 = .ok (.iload_n 2, 1) := by decide +kernel
theorem dX6_would_26 : decode cX6_would 26 = .ok (.iload_n 3, 1) := by decide +kernel
theorem dX6_would_27 : decode cX6_would 27 = .ok (.invokevirtual 150, 3) := by decide +kernel
theorem dX6_would_30 : decode cX6_would 30 = .ok (.aload_n 0, 1) := by decide +kernel
theorem dX6_would_31 : decode cX6_would 31 = .ok (.getfield 10, 3) := by decide +kernel
theorem dX6_would_34 : decode cX6_would 34 = .ok (.aload_n 0, 1) := by decide +kernel
theorem dX6_would_35 : decode cX6_would 35 = .ok (.getfield 25, 3) := by decide +kernel
theorem dX6_would_38 : decode cX6_would 38 = .ok (.aload_n 0, 1) := by decide +kernel
theorem dX6_would_39 : decode cX6_would 39 = .ok (.getfield 10, 3) := by decide +kernel
theorem dX6_would_42 : decode cX6_would 42 = .ok (.getfield 133, 3) := by decide +kernel
theorem dX6_would_45 : decode cX6_would 45 = .ok (.aload_n 0, 1) := by decide +kernel
theorem dX6_would_46 : decode cX6_would 46 = .ok (.getfield 10, 3) := by decide +kernel
theorem dX6_would_49 : decode cX6_would 49 = .ok (.getfield 140, 3) := by decide +kernel
theorem dX6_would_52 : decode cX6_would 52 = .ok (.invokevirtual 161, 3) := by decide +kernel
theorem dX6_would_55 : decode cX6_would 55 = .ok (.ireturn, 1) := by decide +kernel
theorem dX6_sums_0 : decode cX6_sums 0 = .ok (.iload_n 1, 1) := by decide +kernel
theorem dX6_sums_1 : decode cX6_sums 1 = .ok (.tableswitch 54 0 3 #[31, 36, 42, 48], 31) := by decide +kernel
theorem dX6_sums_32 : decode cX6_sums 32 = .ok (.aload_n 0, 1) := by decide +kernel
theorem dX6_sums_33 : decode cX6_sums 33 = .ok (.invokevirtual 165, 3) := by decide +kernel
theorem dX6_sums_36 : decode cX6_sums 36 = .ok (.ireturn, 1) := by decide +kernel
theorem dX6_sums_37 : decode cX6_sums 37 = .ok (.aload_n 0, 1) := by decide +kernel
theorem dX6_sums_38 : decode cX6_sums 38 = .ok (.iconst 1, 1) := by decide +kernel
theorem dX6_sums_39 : decode cX6_sums 39 = .ok (.invokevirtual 169, 3) := by decide +kernel
theorem dX6_sums_42 : decode cX6_sums 42 = .ok (.ireturn, 1) := by decide +kernel
theorem dX6_sums_43 : decode cX6_sums 43 = .ok (.aload_n 0, 1) := by decide +kernel
theorem dX6_sums_44 : decode cX6_sums 44 = .ok (.iconst 2, 1) := by decide +kernel
theorem dX6_sums_45 : decode cX6_sums 45 = .ok (.invokevirtual 169, 3) := by decide +kernel
theorem dX6_sums_48 : decode cX6_sums 48 = .ok (.ireturn, 1) := by decide +kernel
theorem dX6_sums_49 : decode cX6_sums 49 = .ok (.aload_n 0, 1) := by decide +kernel
theorem dX6_sums_50 : decode cX6_sums 50 = .ok (.iconst 0, 1) := by decide +kernel
theorem dX6_sums_51 : decode cX6_sums 51 = .ok (.invokevirtual 169, 3) := by decide +kernel
theorem dX6_sums_54 : decode cX6_sums 54 = .ok (.ireturn, 1) := by decide +kernel
theorem dX6_sums_55 : decode cX6_sums 55 = .ok (.aload_n 0, 1) := by decide +kernel
theorem dX6_sums_56 : decode cX6_sums 56 = .ok (.bipush (-2), 2) := by decide +kernel
theorem dX6_sums_58 : decode cX6_sums 58 = .ok (.invokevirtual 73, 3) := by decide +kernel
theorem dX6_sums_61 : decode cX6_sums 61 = .ok (.ireturn, 1) := by decide +kernel
theorem dX6_leastJoining_0 : decode cX6_leastJoining 0 = .ok (.iconst 1, 1) := by decide +kernel
theorem dX6_leastJoining_1 : decode cX6_leastJoining 1 = .ok (.istore_n 1, 1) := by decide +kernel
theorem dX6_leastJoining_2 : decode cX6_leastJoining 2 = .ok (.iload_n 1, 1) := by decide +kernel
theorem dX6_leastJoining_3 : decode cX6_leastJoining 3 = .ok (.sipush 255, 3) := by decide +kernel
theorem dX6_leastJoining_6 : decode cX6_leastJoining 6 = .ok (.if_icmp .gt 24, 3) := by decide +kernel
theorem dX6_leastJoining_9 : decode cX6_leastJoining 9 = .ok (.aload_n 0, 1) := by decide +kernel
theorem dX6_leastJoining_10 : decode cX6_leastJoining 10 = .ok (.aload_n 0, 1) := by decide +kernel
theorem dX6_leastJoining_11 : decode cX6_leastJoining 11 = .ok (.getfield 10, 3) := by decide +kernel
theorem dX6_leastJoining_14 : decode cX6_leastJoining 14 = .ok (.iload_n 1, 1) := by decide +kernel
theorem dX6_leastJoining_15 : decode cX6_leastJoining 15 = .ok (.invokevirtual 172, 3) := by decide +kernel
theorem dX6_leastJoining_18 : decode cX6_leastJoining 18 = .ok (.iconst 1, 1) := by decide +kernel
theorem dX6_leastJoining_19 : decode cX6_leastJoining 19 = .ok (.if_icmp .ne 5, 3) := by decide +kernel
theorem dX6_leastJoining_22 : decode cX6_leastJoining 22 = .ok (.iload_n 1, 1) := by decide +kernel
theorem dX6_leastJoining_23 : decode cX6_leastJoining 23 = .ok (.ireturn, 1) := by decide +kernel
theorem dX6_leastJoining_24 : decode cX6_leastJoining 24 = .ok (.iinc 1 1, 3) := by decide +kernel
theorem dX6_leastJoining_27 : decode cX6_leastJoining 27 = .ok (.goto (-25), 3) := by decide +kernel
theorem dX6_leastJoining_30 : decode cX6_leastJoining 30 = .ok (.bipush (-9), 2) := by decide +kernel
theorem dX6_leastJoining_32 : decode cX6_leastJoining 32 = .ok (.ireturn, 1) := by decide +kernel
theorem dX6_howMany_0 : decode cX6_howMany 0 = .ok (.iconst 0, 1) := by decide +kernel
theorem dX6_howMany_1 : decode cX6_howMany 1 = .ok (.istore_n 2, 1) := by decide +kernel
theorem dX6_howMany_2 : decode cX6_howMany 2 = .ok (.iconst 1, 1) := by decide +kernel
theorem dX6_howMany_3 : decode cX6_howMany 3 = .ok (.istore_n 3, 1) := by decide +kernel
theorem dX6_howMany_4 : decode cX6_howMany 4 = .ok (.iload_n 3, 1) := by decide +kernel
theorem dX6_howMany_5 : decode cX6_howMany 5 = .ok (.sipush 255, 3) := by decide +kernel
theorem dX6_howMany_8 : decode cX6_howMany 8 = .ok (.if_icmp .gt 25, 3) := by decide +kernel
theorem dX6_howMany_11 : decode cX6_howMany 11 = .ok (.aload_n 0, 1) := by decide +kernel
theorem dX6_howMany_12 : decode cX6_howMany 12 = .ok (.aload_n 0, 1) := by decide +kernel
theorem dX6_howMany_13 : decode cX6_howMany 13 = .ok (.getfield 10, 3) := by decide +kernel
theorem dX6_howMany_16 : decode cX6_howMany 16 = .ok (.iload_n 3, 1) := by decide +kernel
theorem dX6_howMany_17 : decode cX6_howMany 17 = .ok (.invokevirtual 172, 3) := by decide +kernel
theorem dX6_howMany_20 : decode cX6_howMany 20 = .ok (.iload_n 1, 1) := by decide +kernel
theorem dX6_howMany_21 : decode cX6_howMany 21 = .ok (.if_icmp .ne 6, 3) := by decide +kernel
theorem dX6_howMany_24 : decode cX6_howMany 24 = .ok (.iinc 2 1, 3) := by decide +kernel
theorem dX6_howMany_27 : decode cX6_howMany 27 = .ok (.iinc 3 1, 3) := by decide +kernel
theorem dX6_howMany_30 : decode cX6_howMany 30 = .ok (.goto (-26), 3) := by decide +kernel
theorem dX6_howMany_33 : decode cX6_howMany 33 = .ok (.iload_n 2, 1) := by decide +kernel
theorem dX6_howMany_34 : decode cX6_howMany 34 = .ok (.ireturn, 1) := by decide +kernel
theorem dX6_meetingOfSum_0 : decode cX6_meetingOfSum 0 = .ok (.aload_n 0, 1) := by decide +kernel
theorem dX6_meetingOfSum_1 : decode cX6_meetingOfSum 1 = .ok (.getfield 25, 3) := by decide +kernel
theorem dX6_meetingOfSum_4 : decode cX6_meetingOfSum 4 = .ok (.iconst 0, 1) := by decide +kernel
theorem dX6_meetingOfSum_5 : decode cX6_meetingOfSum 5 = .ok (.iload_n 2, 1) := by decide +kernel
theorem dX6_meetingOfSum_6 : decode cX6_meetingOfSum 6 = .ok (.iconst 0, 1) := by decide +kernel
theorem dX6_meetingOfSum_7 : decode cX6_meetingOfSum 7 = .ok (.invokevirtual 150, 3) := by decide +kernel
theorem dX6_meetingOfSum_10 : decode cX6_meetingOfSum 10 = .ok (.aload_n 1, 1) := by decide +kernel
theorem dX6_meetingOfSum_11 : decode cX6_meetingOfSum 11 = .ok (.aload_n 0, 1) := by decide +kernel
theorem dX6_meetingOfSum_12 : decode cX6_meetingOfSum 12 = .ok (.getfield 25, 3) := by decide +kernel
theorem dX6_meetingOfSum_15 : decode cX6_meetingOfSum 15 = .ok (.aload_n 1, 1) := by decide +kernel
theorem dX6_meetingOfSum_16 : decode cX6_meetingOfSum 16 = .ok (.getfield 133, 3) := by decide +kernel
theorem dX6_meetingOfSum_19 : decode cX6_meetingOfSum 19 = .ok (.aload_n 1, 1) := by decide +kernel
theorem dX6_meetingOfSum_20 : decode cX6_meetingOfSum 20 = .ok (.getfield 140, 3) := by decide +kernel
theorem dX6_meetingOfSum_23 : decode cX6_meetingOfSum 23 = .ok (.invokevirtual 161, 3) := by decide +kernel
theorem dX6_meetingOfSum_26 : decode cX6_meetingOfSum 26 = .ok (.ireturn, 1) := by decide +kernel
theorem dX6_answer_0 : decode cX6_answer 0 = .ok (.iload_n 1, 1) := by decide +kernel
theorem dX6_answer_1 : decode cX6_answer 1 = .ok (.aload_n 0, 1) := by decide +kernel
theorem dX6_answer_2 : decode cX6_answer 2 = .ok (.getfield 10, 3) := by decide +kernel
theorem dX6_answer_5 : decode cX6_answer 5 = .ok (.getfield 176, 3) := by decide +kernel
theorem dX6_answer_8 : decode cX6_answer 8 = .ok (.invokestatic 69, 3) := by decide +kernel
theorem dX6_answer_11 : decode cX6_answer 11 = .ok (.ifCond .ne 14, 3) := by decide +kernel
theorem dX6_answer_14 : decode cX6_answer 14 = .ok (.ldc2_w 182, 3) := by decide +kernel
theorem dX6_answer_17 : decode cX6_answer 17 = .ok (.aload_n 0, 1) := by decide +kernel
theorem dX6_answer_18 : decode cX6_answer 18 = .ok (.iconst (-1), 1) := by decide +kernel
theorem dX6_answer_19 : decode cX6_answer 19 = .ok (.invokevirtual 73, 3) := by decide +kernel
theorem dX6_answer_22 : decode cX6_answer 22 = .ok (.i2l, 1) := by decide +kernel
theorem dX6_answer_23 : decode cX6_answer 23 = .ok (.lsub, 1) := by decide +kernel
theorem dX6_answer_24 : decode cX6_answer 24 = .ok (.lreturn, 1) := by decide +kernel
theorem dX6_answer_25 : decode cX6_answer 25 = .ok (.aload_n 0, 1) := by decide +kernel
theorem dX6_answer_26 : decode cX6_answer 26 = .ok (.getfield 10, 3) := by decide +kernel
theorem dX6_answer_29 : decode cX6_answer 29 = .ok (.iload_n 1, 1) := by decide +kernel
theorem dX6_answer_30 : decode cX6_answer 30 = .ok (.invokevirtual 184, 3) := by decide +kernel
theorem dX6_answer_33 : decode cX6_answer 33 = .ok (.i2l, 1) := by decide +kernel
theorem dX6_answer_34 : decode cX6_answer 34 = .ok (.lreturn, 1) := by decide +kernel
theorem dX6_reduced_0 : decode cX6_reduced 0 = .ok (.iload_n 1, 1) := by decide +kernel
theorem dX6_reduced_1 : decode cX6_reduced 1 = .ok (.aload_n 0, 1) := by decide +kernel
theorem dX6_reduced_2 : decode cX6_reduced 2 = .ok (.getfield 10, 3) := by decide +kernel
theorem dX6_reduced_5 : decode cX6_reduced 5 = .ok (.getfield 176, 3) := by decide +kernel
theorem dX6_reduced_8 : decode cX6_reduced 8 = .ok (.invokestatic 69, 3) := by decide +kernel
theorem dX6_reduced_11 : decode cX6_reduced 11 = .ok (.ifCond .eq 14, 3) := by decide +kernel
theorem dX6_reduced_14 : decode cX6_reduced 14 = .ok (.aload_n 0, 1) := by decide +kernel
theorem dX6_reduced_15 : decode cX6_reduced 15 = .ok (.getfield 10, 3) := by decide +kernel
theorem dX6_reduced_18 : decode cX6_reduced 18 = .ok (.iload_n 2, 1) := by decide +kernel
theorem dX6_reduced_19 : decode cX6_reduced 19 = .ok (.invokevirtual 91, 3) := by decide +kernel
theorem dX6_reduced_22 : decode cX6_reduced 22 = .ok (.ifCond .ne 14, 3) := by decide +kernel
theorem dX6_reduced_25 : decode cX6_reduced 25 = .ok (.ldc2_w 182, 3) := by decide +kernel
theorem dX6_reduced_28 : decode cX6_reduced 28 = .ok (.aload_n 0, 1) := by decide +kernel
theorem dX6_reduced_29 : decode cX6_reduced 29 = .ok (.iconst (-1), 1) := by decide +kernel
theorem dX6_reduced_30 : decode cX6_reduced 30 = .ok (.invokevirtual 73, 3) := by decide +kernel
theorem dX6_reduced_33 : decode cX6_reduced 33 = .ok (.i2l, 1) := by decide +kernel
theorem dX6_reduced_34 : decode cX6_reduced 34 = .ok (.lsub, 1) := by decide +kernel
theorem dX6_reduced_35 : decode cX6_reduced 35 = .ok (.lreturn, 1) := by decide +kernel
theorem dX6_reduced_36 : decode cX6_reduced 36 = .ok (.iload_n 3, 1) := by decide +kernel
theorem dX6_reduced_37 : decode cX6_reduced 37 = .ok (.iconst 2, 1) := by decide +kernel
theorem dX6_reduced_38 : decode cX6_reduced 38 = .ok (.invokestatic 69, 3) := by decide +kernel
theorem dX6_reduced_41 : decode cX6_reduced 41 = .ok (.ifCond .ne 15, 3) := by decide +kernel
theorem dX6_reduced_44 : decode cX6_reduced 44 = .ok (.ldc2_w 182, 3) := by decide +kernel
theorem dX6_reduced_47 : decode cX6_reduced 47 = .ok (.aload_n 0, 1) := by decide +kernel
theorem dX6_reduced_48 : decode cX6_reduced 48 = .ok (.bipush (-2), 2) := by decide +kernel
theorem dX6_reduced_50 : decode cX6_reduced 50 = .ok (.invokevirtual 73, 3) := by decide +kernel
theorem dX6_reduced_53 : decode cX6_reduced 53 = .ok (.i2l, 1) := by decide +kernel
theorem dX6_reduced_54 : decode cX6_reduced 54 = .ok (.lsub, 1) := by decide +kernel
theorem dX6_reduced_55 : decode cX6_reduced 55 = .ok (.lreturn, 1) := by decide +kernel
theorem dX6_reduced_56 : decode cX6_reduced 56 = .ok (.aload_n 0, 1) := by decide +kernel
theorem dX6_reduced_57 : decode cX6_reduced 57 = .ok (.getfield 10, 3) := by decide +kernel
theorem dX6_reduced_60 : decode cX6_reduced 60 = .ok (.getfield 187, 3) := by decide +kernel
theorem dX6_reduced_63 : decode cX6_reduced 63 = .ok (.iload_n 1, 1) := by decide +kernel
theorem dX6_reduced_64 : decode cX6_reduced 64 = .ok (.iload_n 2, 1) := by decide +kernel
theorem dX6_reduced_65 : decode cX6_reduced 65 = .ok (.iload_n 3, 1) := by decide +kernel
theorem dX6_reduced_66 : decode cX6_reduced 66 = .ok (.invokevirtual 191, 3) := by decide +kernel
theorem dX6_reduced_69 : decode cX6_reduced 69 = .ok (.lreturn, 1) := by decide +kernel
theorem dX6_pivots_0 : decode cX6_pivots 0 = .ok (.aload_n 0, 1) := by decide +kernel
theorem dX6_pivots_1 : decode cX6_pivots 1 = .ok (.getfield 10, 3) := by decide +kernel
theorem dX6_pivots_4 : decode cX6_pivots 4 = .ok (.getfield 187, 3) := by decide +kernel
theorem dX6_pivots_7 : decode cX6_pivots 7 = .ok (.getfield 197, 3) := by decide +kernel
theorem dX6_pivots_10 : decode cX6_pivots 10 = .ok (.ireturn, 1) := by decide +kernel
theorem dX6_attack_0 : decode cX6_attack 0 = .ok (.aload_n 0, 1) := by decide +kernel
theorem dX6_attack_1 : decode cX6_attack 1 = .ok (.getfield 10, 3) := by decide +kernel
theorem dX6_attack_4 : decode cX6_attack 4 = .ok (.iload_n 1, 1) := by decide +kernel
theorem dX6_attack_5 : decode cX6_attack 5 = .ok (.invokevirtual 91, 3) := by decide +kernel
theorem dX6_attack_8 : decode cX6_attack 8 = .ok (.ifCond .ne 9, 3) := by decide +kernel
theorem dX6_attack_11 : decode cX6_attack 11 = .ok (.aload_n 0, 1) := by decide +kernel
theorem dX6_attack_12 : decode cX6_attack 12 = .ok (.iconst (-1), 1) := by decide +kernel
theorem dX6_attack_13 : decode cX6_attack 13 = .ok (.invokevirtual 73, 3) := by decide +kernel
theorem dX6_attack_16 : decode cX6_attack 16 = .ok (.ireturn, 1) := by decide +kernel
theorem dX6_attack_17 : decode cX6_attack 17 = .ok (.iload_n 2, 1) := by decide +kernel
theorem dX6_attack_18 : decode cX6_attack 18 = .ok (.iconst 2, 1) := by decide +kernel
theorem dX6_attack_19 : decode cX6_attack 19 = .ok (.invokestatic 69, 3) := by decide +kernel
theorem dX6_attack_22 : decode cX6_attack 22 = .ok (.ifCond .ne 10, 3) := by decide +kernel
theorem dX6_attack_25 : decode cX6_attack 25 = .ok (.aload_n 0, 1) := by decide +kernel
theorem dX6_attack_26 : decode cX6_attack 26 = .ok (.bipush (-2), 2) := by decide +kernel
theorem dX6_attack_28 : decode cX6_attack 28 = .ok (.invokevirtual 73, 3) := by decide +kernel
theorem dX6_attack_31 : decode cX6_attack 31 = .ok (.ireturn, 1) := by decide +kernel
theorem dX6_attack_32 : decode cX6_attack 32 = .ok (.bipush (-9), 2) := by decide +kernel
theorem dX6_attack_34 : decode cX6_attack 34 = .ok (.istore_n 3, 1) := by decide +kernel
theorem dX6_attack_35 : decode cX6_attack 35 = .ok (.iconst 0, 1) := by decide +kernel
theorem dX6_attack_36 : decode cX6_attack 36 = .ok (.istore 4, 2) := by decide +kernel
theorem dX6_attack_38 : decode cX6_attack 38 = .ok (.sipush 255, 3) := by decide +kernel
theorem dX6_attack_41 : decode cX6_attack 41 = .ok (.istore 5, 2) := by decide +kernel
theorem dX6_attack_43 : decode cX6_attack 43 = .ok (.iload 5, 2) := by decide +kernel
theorem dX6_attack_45 : decode cX6_attack 45 = .ok (.iconst 1, 1) := by decide +kernel
theorem dX6_attack_46 : decode cX6_attack 46 = .ok (.if_icmp .lt 45, 3) := by decide +kernel
theorem dX6_attack_49 : decode cX6_attack 49 = .ok (.aload_n 0, 1) := by decide +kernel
theorem dX6_attack_50 : decode cX6_attack 50 = .ok (.getfield 25, 3) := by decide +kernel
theorem dX6_attack_53 : decode cX6_attack 53 = .ok (.iconst 0, 1) := by decide +kernel
theorem dX6_attack_54 : decode cX6_attack 54 = .ok (.iload 5, 2) := by decide +kernel
theorem dX6_attack_56 : decode cX6_attack 56 = .ok (.iconst 0, 1) := by decide +kernel
theorem dX6_attack_57 : decode cX6_attack 57 = .ok (.invokevirtual 150, 3) := by decide +kernel
theorem dX6_attack_60 : decode cX6_attack 60 = .ok (.aload_n 0, 1) := by decide +kernel
theorem dX6_attack_61 : decode cX6_attack 61 = .ok (.getfield 10, 3) := by decide +kernel
theorem dX6_attack_64 : decode cX6_attack 64 = .ok (.aload_n 0, 1) := by decide +kernel
theorem dX6_attack_65 : decode cX6_attack 65 = .ok (.getfield 25, 3) := by decide +kernel
theorem dX6_attack_68 : decode cX6_attack 68 = .ok (.invokevirtual 200, 3) := by decide +kernel
theorem dX6_attack_71 : decode cX6_attack 71 = .ok (.iload_n 1, 1) := by decide +kernel
theorem dX6_attack_72 : decode cX6_attack 72 = .ok (.ishr, 1) := by decide +kernel
theorem dX6_attack_73 : decode cX6_attack 73 = .ok (.iconst 1, 1) := by decide +kernel
theorem dX6_attack_74 : decode cX6_attack 74 = .ok (.iand, 1) := by decide +kernel
theorem dX6_attack_75 : decode cX6_attack 75 = .ok (.iconst 1, 1) := by decide +kernel
theorem dX6_attack_76 : decode cX6_attack 76 = .ok (.if_icmp .ne 9, 3) := by decide +kernel
theorem dX6_attack_79 : decode cX6_attack 79 = .ok (.iload 5, 2) := by decide +kernel
theorem dX6_attack_81 : decode cX6_attack 81 = .ok (.istore_n 3, 1) := by decide +kernel
theorem dX6_attack_82 : decode cX6_attack 82 = .ok (.iinc 4 1, 3) := by decide +kernel
theorem dX6_attack_85 : decode cX6_attack 85 = .ok (.iinc 5 (-1), 3) := by decide +kernel
theorem dX6_attack_88 : decode cX6_attack 88 = .ok (.goto (-45), 3) := by decide +kernel
theorem dX6_attack_91 : decode cX6_attack 91 = .ok (.iload_n 2, 1) := by decide +kernel
theorem dX6_attack_92 : decode cX6_attack 92 = .ok (.ifCond .ne 7, 3) := by decide +kernel
theorem dX6_attack_95 : decode cX6_attack 95 = .ok (.iload_n 3, 1) := by decide +kernel
theorem dX6_attack_96 : decode cX6_attack 96 = .ok (.goto 5, 3) := by decide +kernel
theorem dX6_attack_99 : decode cX6_attack 99 = .ok (.iload 4, 2) := by decide +kernel
theorem dX6_attack_101 : decode cX6_attack 101 = .ok (.ireturn, 1) := by decide +kernel
theorem dX6_image_0 : decode cX6_image 0 = .ok (.aload_n 0, 1) := by decide +kernel
theorem dX6_image_1 : decode cX6_image 1 = .ok (.getfield 19, 3) := by decide +kernel
theorem dX6_image_4 : decode cX6_image 4 = .ok (.aload_n 0, 1) := by decide +kernel
theorem dX6_image_5 : decode cX6_image 5 = .ok (.getfield 10, 3) := by decide +kernel
theorem dX6_image_8 : decode cX6_image 8 = .ok (.invokevirtual 56, 3) := by decide +kernel
theorem dX6_image_11 : decode cX6_image 11 = .ok (.aload_n 0, 1) := by decide +kernel
theorem dX6_image_12 : decode cX6_image 12 = .ok (.iconst 1, 1) := by decide +kernel
theorem dX6_image_13 : decode cX6_image 13 = .ok (.putfield 274, 3) := by decide +kernel
theorem dX6_image_16 : decode cX6_image 16 = .ok (.aload_n 0, 1) := by decide +kernel
theorem dX6_image_17 : decode cX6_image 17 = .ok (.getfield 10, 3) := by decide +kernel
theorem dX6_image_20 : decode cX6_image 20 = .ok (.getfield 176, 3) := by decide +kernel
theorem dX6_image_23 : decode cX6_image 23 = .ok (.ireturn, 1) := by decide +kernel
theorem dX6_on_0 : decode cX6_on 0 = .ok (.aload_n 0, 1) := by decide +kernel
theorem dX6_on_1 : decode cX6_on 1 = .ok (.getfield 274, 3) := by decide +kernel
theorem dX6_on_4 : decode cX6_on 4 = .ok (.ifCond .ne 10, 3) := by decide +kernel
theorem dX6_on_7 : decode cX6_on 7 = .ok (.aload_n 0, 1) := by decide +kernel
theorem dX6_on_8 : decode cX6_on 8 = .ok (.bipush (-3), 2) := by decide +kernel
theorem dX6_on_10 : decode cX6_on 10 = .ok (.invokevirtual 73, 3) := by decide +kernel
theorem dX6_on_13 : decode cX6_on 13 = .ok (.ireturn, 1) := by decide +kernel
theorem dX6_on_14 : decode cX6_on 14 = .ok (.aload_n 0, 1) := by decide +kernel
theorem dX6_on_15 : decode cX6_on 15 = .ok (.getfield 10, 3) := by decide +kernel
theorem dX6_on_18 : decode cX6_on 18 = .ok (.aload_n 0, 1) := by decide +kernel
theorem dX6_on_19 : decode cX6_on 19 = .ok (.getfield 19, 3) := by decide +kernel
theorem dX6_on_22 : decode cX6_on 22 = .ok (.invokevirtual 56, 3) := by decide +kernel
theorem dX6_on_25 : decode cX6_on 25 = .ok (.aload_n 0, 1) := by decide +kernel
theorem dX6_on_26 : decode cX6_on 26 = .ok (.getfield 10, 3) := by decide +kernel
theorem dX6_on_29 : decode cX6_on 29 = .ok (.getfield 176, 3) := by decide +kernel
theorem dX6_on_32 : decode cX6_on 32 = .ok (.ireturn, 1) := by decide +kernel
theorem dX6_count_0 : decode cX6_count 0 = .ok (.iload_n 1, 1) := by decide +kernel
theorem dX6_count_1 : decode cX6_count 1 = .ok (.tableswitch 111 0 7 #[47, 55, 63, 71, 79, 87, 95, 103], 47) := by decide +kernel
theorem dX6_count_48 : decode cX6_count 48 = .ok (.aload_n 0, 1) := by decide +kernel
theorem dX6_count_49 : decode cX6_count 49 = .ok (.getfield 10, 3) := by decide +kernel
theorem dX6_count_52 : decode cX6_count 52 = .ok (.getfield 176, 3) := by decide +kernel
theorem dX6_count_55 : decode cX6_count 55 = .ok (.ireturn, 1) := by decide +kernel
theorem dX6_count_56 : decode cX6_count 56 = .ok (.aload_n 0, 1) := by decide +kernel
theorem dX6_count_57 : decode cX6_count 57 = .ok (.getfield 10, 3) := by decide +kernel
theorem dX6_count_60 : decode cX6_count 60 = .ok (.getfield 221, 3) := by decide +kernel
theorem dX6_count_63 : decode cX6_count 63 = .ok (.ireturn, 1) := by decide +kernel
theorem dX6_count_64 : decode cX6_count 64 = .ok (.aload_n 0, 1) := by decide +kernel
theorem dX6_count_65 : decode cX6_count 65 = .ok (.getfield 10, 3) := by decide +kernel
theorem dX6_count_68 : decode cX6_count 68 = .ok (.getfield 133, 3) := by decide +kernel
theorem dX6_count_71 : decode cX6_count 71 = .ok (.ireturn, 1) := by decide +kernel
theorem dX6_count_72 : decode cX6_count 72 = .ok (.aload_n 0, 1) := by decide +kernel
theorem dX6_count_73 : decode cX6_count 73 = .ok (.getfield 10, 3) := by decide +kernel
theorem dX6_count_76 : decode cX6_count 76 = .ok (.getfield 140, 3) := by decide +kernel
theorem dX6_count_79 : decode cX6_count 79 = .ok (.ireturn, 1) := by decide +kernel
theorem dX6_count_80 : decode cX6_count 80 = .ok (.aload_n 0, 1) := by decide +kernel
theorem dX6_count_81 : decode cX6_count 81 = .ok (.getfield 10, 3) := by decide +kernel
theorem dX6_count_84 : decode cX6_count 84 = .ok (.invokevirtual 278, 3) := by decide +kernel
theorem dX6_count_87 : decode cX6_count 87 = .ok (.ireturn, 1) := by decide +kernel
theorem dX6_count_88 : decode cX6_count 88 = .ok (.aload_n 0, 1) := by decide +kernel
theorem dX6_count_89 : decode cX6_count 89 = .ok (.getfield 10, 3) := by decide +kernel
theorem dX6_count_92 : decode cX6_count 92 = .ok (.invokevirtual 281, 3) := by decide +kernel
theorem dX6_count_95 : decode cX6_count 95 = .ok (.ireturn, 1) := by decide +kernel
theorem dX6_count_96 : decode cX6_count 96 = .ok (.aload_n 0, 1) := by decide +kernel
theorem dX6_count_97 : decode cX6_count 97 = .ok (.getfield 45, 3) := by decide +kernel
theorem dX6_count_100 : decode cX6_count 100 = .ok (.getfield 257, 3) := by decide +kernel
theorem dX6_count_103 : decode cX6_count 103 = .ok (.ireturn, 1) := by decide +kernel
theorem dX6_count_104 : decode cX6_count 104 = .ok (.aload_n 0, 1) := by decide +kernel
theorem dX6_count_105 : decode cX6_count 105 = .ok (.getfield 41, 3) := by decide +kernel
theorem dX6_count_108 : decode cX6_count 108 = .ok (.getfield 257, 3) := by decide +kernel
theorem dX6_count_111 : decode cX6_count 111 = .ok (.ireturn, 1) := by decide +kernel
theorem dX6_count_112 : decode cX6_count 112 = .ok (.iload_n 1, 1) := by decide +kernel
theorem dX6_count_113 : decode cX6_count 113 = .ok (.bipush 11, 2) := by decide +kernel
theorem dX6_count_115 : decode cX6_count 115 = .ok (.isub, 1) := by decide +kernel
theorem dX6_count_116 : decode cX6_count 116 = .ok (.bipush 6, 2) := by decide +kernel
theorem dX6_count_118 : decode cX6_count 118 = .ok (.invokestatic 69, 3) := by decide +kernel
theorem dX6_count_121 : decode cX6_count 121 = .ok (.ifCond .eq 15, 3) := by decide +kernel
theorem dX6_count_124 : decode cX6_count 124 = .ok (.aload_n 0, 1) := by decide +kernel
theorem dX6_count_125 : decode cX6_count 125 = .ok (.getfield 48, 3) := by decide +kernel
theorem dX6_count_128 : decode cX6_count 128 = .ok (.iload_n 1, 1) := by decide +kernel
theorem dX6_count_129 : decode cX6_count 129 = .ok (.bipush 11, 2) := by decide +kernel
theorem dX6_count_131 : decode cX6_count 131 = .ok (.isub, 1) := by decide +kernel
theorem dX6_count_132 : decode cX6_count 132 = .ok (.iaload, 1) := by decide +kernel
theorem dX6_count_133 : decode cX6_count 133 = .ok (.goto 5, 3) := by decide +kernel
theorem dX6_count_136 : decode cX6_count 136 = .ok (.bipush (-9), 2) := by decide +kernel
theorem dX6_count_138 : decode cX6_count 138 = .ok (.ireturn, 1) := by decide +kernel
theorem dX6_refuse_0 : decode cX6_refuse 0 = .ok (.iconst (-1), 1) := by decide +kernel
theorem dX6_refuse_1 : decode cX6_refuse 1 = .ok (.iload_n 1, 1) := by decide +kernel
theorem dX6_refuse_2 : decode cX6_refuse 2 = .ok (.isub, 1) := by decide +kernel
theorem dX6_refuse_3 : decode cX6_refuse 3 = .ok (.istore_n 2, 1) := by decide +kernel
theorem dX6_refuse_4 : decode cX6_refuse 4 = .ok (.iload_n 2, 1) := by decide +kernel
theorem dX6_refuse_5 : decode cX6_refuse 5 = .ok (.bipush 6, 2) := by decide +kernel
theorem dX6_refuse_7 : decode cX6_refuse 7 = .ok (.invokestatic 69, 3) := by decide +kernel
theorem dX6_refuse_10 : decode cX6_refuse 10 = .ok (.ifCond .eq 13, 3) := by decide +kernel
theorem dX6_refuse_13 : decode cX6_refuse 13 = .ok (.aload_n 0, 1) := by decide +kernel
theorem dX6_refuse_14 : decode cX6_refuse 14 = .ok (.getfield 48, 3) := by decide +kernel
theorem dX6_refuse_17 : decode cX6_refuse 17 = .ok (.iload_n 2, 1) := by decide +kernel
theorem dX6_refuse_18 : decode cX6_refuse 18 = .ok (.dup2, 1) := by decide +kernel
theorem dX6_refuse_19 : decode cX6_refuse 19 = .ok (.iaload, 1) := by decide +kernel
theorem dX6_refuse_20 : decode cX6_refuse 20 = .ok (.iconst 1, 1) := by decide +kernel
theorem dX6_refuse_21 : decode cX6_refuse 21 = .ok (.iadd, 1) := by decide +kernel
theorem dX6_refuse_22 : decode cX6_refuse 22 = .ok (.iastore, 1) := by decide +kernel
theorem dX6_refuse_23 : decode cX6_refuse 23 = .ok (.iload_n 1, 1) := by decide +kernel
theorem dX6_refuse_24 : decode cX6_refuse 24 = .ok (.ireturn, 1) := by decide +kernel
theorem dX6_misfit_0 : decode cX6_misfit 0 = .ok (.iload_n 0, 1) := by decide +kernel
theorem dX6_misfit_1 : decode cX6_misfit 1 = .ok (.iload_n 1, 1) := by decide +kernel
theorem dX6_misfit_2 : decode cX6_misfit 2 = .ok (.if_icmp .ge 8, 3) := by decide +kernel
theorem dX6_misfit_5 : decode cX6_misfit 5 = .ok (.bipush (-4), 2) := by decide +kernel
theorem dX6_misfit_7 : decode cX6_misfit 7 = .ok (.goto 14, 3) := by decide +kernel
theorem dX6_misfit_10 : decode cX6_misfit 10 = .ok (.iload_n 0, 1) := by decide +kernel
theorem dX6_misfit_11 : decode cX6_misfit 11 = .ok (.iload_n 2, 1) := by decide +kernel
theorem dX6_misfit_12 : decode cX6_misfit 12 = .ok (.if_icmp .le 8, 3) := by decide +kernel
theorem dX6_misfit_15 : decode cX6_misfit 15 = .ok (.bipush (-6), 2) := by decide +kernel
theorem dX6_misfit_17 : decode cX6_misfit 17 = .ok (.goto 4, 3) := by decide +kernel
theorem dX6_misfit_20 : decode cX6_misfit 20 = .ok (.iconst 0, 1) := by decide +kernel
theorem dX6_misfit_21 : decode cX6_misfit 21 = .ok (.ireturn, 1) := by decide +kernel
theorem dX6_isWithin_0 : decode cX6_isWithin 0 = .ok (.iload_n 0, 1) := by decide +kernel
theorem dX6_isWithin_1 : decode cX6_isWithin 1 = .ok (.ifCond .lt 12, 3) := by decide +kernel
theorem dX6_isWithin_4 : decode cX6_isWithin 4 = .ok (.iload_n 0, 1) := by decide +kernel
theorem dX6_isWithin_5 : decode cX6_isWithin 5 = .ok (.iload_n 1, 1) := by decide +kernel
theorem dX6_isWithin_6 : decode cX6_isWithin 6 = .ok (.if_icmp .ge 7, 3) := by decide +kernel
theorem dX6_isWithin_9 : decode cX6_isWithin 9 = .ok (.iconst 1, 1) := by decide +kernel
theorem dX6_isWithin_10 : decode cX6_isWithin 10 = .ok (.goto 4, 3) := by decide +kernel
theorem dX6_isWithin_13 : decode cX6_isWithin 13 = .ok (.iconst 0, 1) := by decide +kernel
theorem dX6_isWithin_14 : decode cX6_isWithin 14 = .ok (.ireturn, 1) := by decide +kernel
theorem dX6_asNumber_0 : decode cX6_asNumber 0 = .ok (.iload_n 0, 1) := by decide +kernel
theorem dX6_asNumber_1 : decode cX6_asNumber 1 = .ok (.ifCond .eq 7, 3) := by decide +kernel
theorem dX6_asNumber_4 : decode cX6_asNumber 4 = .ok (.iconst 1, 1) := by decide +kernel
theorem dX6_asNumber_5 : decode cX6_asNumber 5 = .ok (.goto 4, 3) := by decide +kernel
theorem dX6_asNumber_8 : decode cX6_asNumber 8 = .ok (.iconst 0, 1) := by decide +kernel
theorem dX6_asNumber_9 : decode cX6_asNumber 9 = .ok (.ireturn, 1) := by decide +kernel
theorem dX6_partInLeastTerms_0 : decode cX6_partInLeastTerms 0 = .ok (.lload_n 0, 1) := by decide +kernel
theorem dX6_partInLeastTerms_1 : decode cX6_partInLeastTerms 1 = .ok (.invokestatic 287, 3) := by decide +kernel
theorem dX6_partInLeastTerms_4 : decode cX6_partInLeastTerms 4 = .ok (.lload_n 2, 1) := by decide +kernel
theorem dX6_partInLeastTerms_5 : decode cX6_partInLeastTerms 5 = .ok (.invokestatic 287, 3) := by decide +kernel
theorem dX6_partInLeastTerms_8 : decode cX6_partInLeastTerms 8 = .ok (.invokestatic 291, 3) := by decide +kernel
theorem dX6_partInLeastTerms_11 : decode cX6_partInLeastTerms 11 = .ok (.lstore 5, 2) := by decide +kernel
theorem dX6_partInLeastTerms_13 : decode cX6_partInLeastTerms 13 = .ok (.lload_n 0, 1) := by decide +kernel
theorem dX6_partInLeastTerms_14 : decode cX6_partInLeastTerms 14 = .ok (.lconst 0, 1) := by decide +kernel
theorem dX6_partInLeastTerms_15 : decode cX6_partInLeastTerms 15 = .ok (.lcmp, 1) := by decide +kernel
theorem dX6_partInLeastTerms_16 : decode cX6_partInLeastTerms 16 = .ok (.ifCond .eq 16, 3) := by decide +kernel
theorem dX6_partInLeastTerms_19 : decode cX6_partInLeastTerms 19 = .ok (.lload_n 2, 1) := by decide +kernel
theorem dX6_partInLeastTerms_20 : decode cX6_partInLeastTerms 20 = .ok (.lconst 0, 1) := by decide +kernel
theorem dX6_partInLeastTerms_21 : decode cX6_partInLeastTerms 21 = .ok (.lcmp, 1) := by decide +kernel
theorem dX6_partInLeastTerms_22 : decode cX6_partInLeastTerms 22 = .ok (.ifCond .eq 10, 3) := by decide +kernel
theorem dX6_partInLeastTerms_25 : decode cX6_partInLeastTerms 25 = .ok (.lload 5, 2) := by decide +kernel
theorem dX6_partInLeastTerms_27 : decode cX6_partInLeastTerms 27 = .ok (.lconst 0, 1) := by decide +kernel
theorem dX6_partInLeastTerms_28 : decode cX6_partInLeastTerms 28 = .ok (.lcmp, 1) := by decide +kernel
theorem dX6_partInLeastTerms_29 : decode cX6_partInLeastTerms 29 = .ok (.ifCond .ne 14, 3) := by decide +kernel
theorem dX6_partInLeastTerms_32 : decode cX6_partInLeastTerms 32 = .ok (.iload 4, 2) := by decide +kernel
theorem dX6_partInLeastTerms_34 : decode cX6_partInLeastTerms 34 = .ok (.ifCond .ne 7, 3) := by decide +kernel
theorem dX6_partInLeastTerms_37 : decode cX6_partInLeastTerms 37 = .ok (.lconst 0, 1) := by decide +kernel
theorem dX6_partInLeastTerms_38 : decode cX6_partInLeastTerms 38 = .ok (.goto 4, 3) := by decide +kernel
theorem dX6_partInLeastTerms_41 : decode cX6_partInLeastTerms 41 = .ok (.lconst 1, 1) := by decide +kernel
theorem dX6_partInLeastTerms_42 : decode cX6_partInLeastTerms 42 = .ok (.lreturn, 1) := by decide +kernel
theorem dX6_partInLeastTerms_43 : decode cX6_partInLeastTerms 43 = .ok (.lload_n 2, 1) := by decide +kernel
theorem dX6_partInLeastTerms_44 : decode cX6_partInLeastTerms 44 = .ok (.lconst 0, 1) := by decide +kernel
theorem dX6_partInLeastTerms_45 : decode cX6_partInLeastTerms 45 = .ok (.lcmp, 1) := by decide +kernel
theorem dX6_partInLeastTerms_46 : decode cX6_partInLeastTerms 46 = .ok (.ifCond .ge 9, 3) := by decide +kernel
theorem dX6_partInLeastTerms_49 : decode cX6_partInLeastTerms 49 = .ok (.lload 5, 2) := by decide +kernel
theorem dX6_partInLeastTerms_51 : decode cX6_partInLeastTerms 51 = .ok (.lneg, 1) := by decide +kernel
theorem dX6_partInLeastTerms_52 : decode cX6_partInLeastTerms 52 = .ok (.goto 5, 3) := by decide +kernel
theorem dX6_partInLeastTerms_55 : decode cX6_partInLeastTerms 55 = .ok (.lload 5, 2) := by decide +kernel
theorem dX6_partInLeastTerms_57 : decode cX6_partInLeastTerms 57 = .ok (.lstore 7, 2) := by decide +kernel
theorem dX6_partInLeastTerms_59 : decode cX6_partInLeastTerms 59 = .ok (.iload 4, 2) := by decide +kernel
theorem dX6_partInLeastTerms_61 : decode cX6_partInLeastTerms 61 = .ok (.ifCond .ne 7, 3) := by decide +kernel
theorem dX6_partInLeastTerms_64 : decode cX6_partInLeastTerms 64 = .ok (.lload_n 0, 1) := by decide +kernel
theorem dX6_partInLeastTerms_65 : decode cX6_partInLeastTerms 65 = .ok (.goto 4, 3) := by decide +kernel
theorem dX6_partInLeastTerms_68 : decode cX6_partInLeastTerms 68 = .ok (.lload_n 2, 1) := by decide +kernel
theorem dX6_partInLeastTerms_69 : decode cX6_partInLeastTerms 69 = .ok (.lload 7, 2) := by decide +kernel
theorem dX6_partInLeastTerms_71 : decode cX6_partInLeastTerms 71 = .ok (.ldiv, 1) := by decide +kernel
theorem dX6_partInLeastTerms_72 : decode cX6_partInLeastTerms 72 = .ok (.lreturn, 1) := by decide +kernel
theorem dX6_greatestDivisor_0 : decode cX6_greatestDivisor 0 = .ok (.lload_n 0, 1) := by decide +kernel
theorem dX6_greatestDivisor_1 : decode cX6_greatestDivisor 1 = .ok (.lstore 4, 2) := by decide +kernel
theorem dX6_greatestDivisor_3 : decode cX6_greatestDivisor 3 = .ok (.lload_n 2, 1) := by decide +kernel
theorem dX6_greatestDivisor_4 : decode cX6_greatestDivisor 4 = .ok (.lstore 6, 2) := by decide +kernel
theorem dX6_greatestDivisor_6 : decode cX6_greatestDivisor 6 = .ok (.iconst 0, 1) := by decide +kernel
theorem dX6_greatestDivisor_7 : decode cX6_greatestDivisor 7 = .ok (.istore 8, 2) := by decide +kernel
theorem dX6_greatestDivisor_9 : decode cX6_greatestDivisor 9 = .ok (.iload 8, 2) := by decide +kernel
theorem dX6_greatestDivisor_11 : decode cX6_greatestDivisor 11 = .ok (.sipush 200, 3) := by decide +kernel
theorem dX6_greatestDivisor_14 : decode cX6_greatestDivisor 14 = .ok (.if_icmp .ge 31, 3) := by decide +kernel
theorem dX6_greatestDivisor_17 : decode cX6_greatestDivisor 17 = .ok (.lload 6, 2) := by decide +kernel
theorem dX6_greatestDivisor_19 : decode cX6_greatestDivisor 19 = .ok (.lconst 0, 1) := by decide +kernel
theorem dX6_greatestDivisor_20 : decode cX6_greatestDivisor 20 = .ok (.lcmp, 1) := by decide +kernel
theorem dX6_greatestDivisor_21 : decode cX6_greatestDivisor 21 = .ok (.ifCond .eq 24, 3) := by decide +kernel
theorem dX6_greatestDivisor_24 : decode cX6_greatestDivisor 24 = .ok (.lload 4, 2) := by decide +kernel
theorem dX6_greatestDivisor_26 : decode cX6_greatestDivisor 26 = .ok (.lload 6, 2) := by decide +kernel
theorem dX6_greatestDivisor_28 : decode cX6_greatestDivisor 28 = .ok (.lrem, 1) := by decide +kernel
theorem dX6_greatestDivisor_29 : decode cX6_greatestDivisor 29 = .ok (.lstore 9, 2) := by decide +kernel
theorem dX6_greatestDivisor_31 : decode cX6_greatestDivisor 31 = .ok (.lload 6, 2) := by decide +kernel
theorem dX6_greatestDivisor_33 : decode cX6_greatestDivisor 33 = .ok (.lstore 4, 2) := by decide +kernel
theorem dX6_greatestDivisor_35 : decode cX6_greatestDivisor 35 = .ok (.lload 9, 2) := by decide +kernel
theorem dX6_greatestDivisor_37 : decode cX6_greatestDivisor 37 = .ok (.lstore 6, 2) := by decide +kernel
theorem dX6_greatestDivisor_39 : decode cX6_greatestDivisor 39 = .ok (.iinc 8 1, 3) := by decide +kernel
theorem dX6_greatestDivisor_42 : decode cX6_greatestDivisor 42 = .ok (.goto (-33), 3) := by decide +kernel
theorem dX6_greatestDivisor_45 : decode cX6_greatestDivisor 45 = .ok (.lload 4, 2) := by decide +kernel
theorem dX6_greatestDivisor_47 : decode cX6_greatestDivisor 47 = .ok (.lreturn, 1) := by decide +kernel
theorem dJ6_bitCount_0f7a4_0 : decode cJ6_bitCount_0f7a4 0 = .ok (.iload_n 0, 1) := by decide +kernel
theorem dJ6_bitCount_0f7a4_1 : decode cJ6_bitCount_0f7a4 1 = .ok (.iload_n 0, 1) := by decide +kernel
theorem dJ6_bitCount_0f7a4_2 : decode cJ6_bitCount_0f7a4 2 = .ok (.iconst 1, 1) := by decide +kernel
theorem dJ6_bitCount_0f7a4_3 : decode cJ6_bitCount_0f7a4 3 = .ok (.iushr, 1) := by decide +kernel
theorem dJ6_bitCount_0f7a4_4 : decode cJ6_bitCount_0f7a4 4 = .ok (.ldc_w 265, 3) := by decide +kernel
theorem dJ6_bitCount_0f7a4_7 : decode cJ6_bitCount_0f7a4 7 = .ok (.iand, 1) := by decide +kernel
theorem dJ6_bitCount_0f7a4_8 : decode cJ6_bitCount_0f7a4 8 = .ok (.isub, 1) := by decide +kernel
theorem dJ6_bitCount_0f7a4_9 : decode cJ6_bitCount_0f7a4 9 = .ok (.istore_n 0, 1) := by decide +kernel
theorem dJ6_bitCount_0f7a4_10 : decode cJ6_bitCount_0f7a4 10 = .ok (.iload_n 0, 1) := by decide +kernel
theorem dJ6_bitCount_0f7a4_11 : decode cJ6_bitCount_0f7a4 11 = .ok (.ldc_w 266, 3) := by decide +kernel
theorem dJ6_bitCount_0f7a4_14 : decode cJ6_bitCount_0f7a4 14 = .ok (.iand, 1) := by decide +kernel
theorem dJ6_bitCount_0f7a4_15 : decode cJ6_bitCount_0f7a4 15 = .ok (.iload_n 0, 1) := by decide +kernel
theorem dJ6_bitCount_0f7a4_16 : decode cJ6_bitCount_0f7a4 16 = .ok (.iconst 2, 1) := by decide +kernel
theorem dJ6_bitCount_0f7a4_17 : decode cJ6_bitCount_0f7a4 17 = .ok (.iushr, 1) := by decide +kernel
theorem dJ6_bitCount_0f7a4_18 : decode cJ6_bitCount_0f7a4 18 = .ok (.ldc_w 266, 3) := by decide +kernel
theorem dJ6_bitCount_0f7a4_21 : decode cJ6_bitCount_0f7a4 21 = .ok (.iand, 1) := by decide +kernel
theorem dJ6_bitCount_0f7a4_22 : decode cJ6_bitCount_0f7a4 22 = .ok (.iadd, 1) := by decide +kernel
theorem dJ6_bitCount_0f7a4_23 : decode cJ6_bitCount_0f7a4 23 = .ok (.istore_n 0, 1) := by decide +kernel
theorem dJ6_bitCount_0f7a4_24 : decode cJ6_bitCount_0f7a4 24 = .ok (.iload_n 0, 1) := by decide +kernel
theorem dJ6_bitCount_0f7a4_25 : decode cJ6_bitCount_0f7a4 25 = .ok (.iload_n 0, 1) := by decide +kernel
theorem dJ6_bitCount_0f7a4_26 : decode cJ6_bitCount_0f7a4 26 = .ok (.iconst 4, 1) := by decide +kernel
theorem dJ6_bitCount_0f7a4_27 : decode cJ6_bitCount_0f7a4 27 = .ok (.iushr, 1) := by decide +kernel
theorem dJ6_bitCount_0f7a4_28 : decode cJ6_bitCount_0f7a4 28 = .ok (.iadd, 1) := by decide +kernel
theorem dJ6_bitCount_0f7a4_29 : decode cJ6_bitCount_0f7a4 29 = .ok (.ldc_w 267, 3) := by decide +kernel
theorem dJ6_bitCount_0f7a4_32 : decode cJ6_bitCount_0f7a4 32 = .ok (.iand, 1) := by decide +kernel
theorem dJ6_bitCount_0f7a4_33 : decode cJ6_bitCount_0f7a4 33 = .ok (.istore_n 0, 1) := by decide +kernel
theorem dJ6_bitCount_0f7a4_34 : decode cJ6_bitCount_0f7a4 34 = .ok (.iload_n 0, 1) := by decide +kernel
theorem dJ6_bitCount_0f7a4_35 : decode cJ6_bitCount_0f7a4 35 = .ok (.iload_n 0, 1) := by decide +kernel
theorem dJ6_bitCount_0f7a4_36 : decode cJ6_bitCount_0f7a4 36 = .ok (.bipush 8, 2) := by decide +kernel
theorem dJ6_bitCount_0f7a4_38 : decode cJ6_bitCount_0f7a4 38 = .ok (.iushr, 1) := by decide +kernel
theorem dJ6_bitCount_0f7a4_39 : decode cJ6_bitCount_0f7a4 39 = .ok (.iadd, 1) := by decide +kernel
theorem dJ6_bitCount_0f7a4_40 : decode cJ6_bitCount_0f7a4 40 = .ok (.istore_n 0, 1) := by decide +kernel
theorem dJ6_bitCount_0f7a4_41 : decode cJ6_bitCount_0f7a4 41 = .ok (.iload_n 0, 1) := by decide +kernel
theorem dJ6_bitCount_0f7a4_42 : decode cJ6_bitCount_0f7a4 42 = .ok (.iload_n 0, 1) := by decide +kernel
theorem dJ6_bitCount_0f7a4_43 : decode cJ6_bitCount_0f7a4 43 = .ok (.bipush 16, 2) := by decide +kernel
theorem dJ6_bitCount_0f7a4_45 : decode cJ6_bitCount_0f7a4 45 = .ok (.iushr, 1) := by decide +kernel
theorem dJ6_bitCount_0f7a4_46 : decode cJ6_bitCount_0f7a4 46 = .ok (.iadd, 1) := by decide +kernel
theorem dJ6_bitCount_0f7a4_47 : decode cJ6_bitCount_0f7a4 47 = .ok (.istore_n 0, 1) := by decide +kernel
theorem dJ6_bitCount_0f7a4_48 : decode cJ6_bitCount_0f7a4 48 = .ok (.iload_n 0, 1) := by decide +kernel
theorem dJ6_bitCount_0f7a4_49 : decode cJ6_bitCount_0f7a4 49 = .ok (.bipush 63, 2) := by decide +kernel
theorem dJ6_bitCount_0f7a4_51 : decode cJ6_bitCount_0f7a4 51 = .ok (.iand, 1) := by decide +kernel
theorem dJ6_bitCount_0f7a4_52 : decode cJ6_bitCount_0f7a4 52 = .ok (.ireturn, 1) := by decide +kernel
theorem dJ9_floorDiv_7cf53_0 : decode cJ9_floorDiv_7cf53 0 = .ok (.iload_n 0, 1) := by decide +kernel
theorem dJ9_floorDiv_7cf53_1 : decode cJ9_floorDiv_7cf53 1 = .ok (.iload_n 1, 1) := by decide +kernel
theorem dJ9_floorDiv_7cf53_2 : decode cJ9_floorDiv_7cf53 2 = .ok (.idiv, 1) := by decide +kernel
theorem dJ9_floorDiv_7cf53_3 : decode cJ9_floorDiv_7cf53 3 = .ok (.istore_n 2, 1) := by decide +kernel
theorem dJ9_floorDiv_7cf53_4 : decode cJ9_floorDiv_7cf53 4 = .ok (.iload_n 0, 1) := by decide +kernel
theorem dJ9_floorDiv_7cf53_5 : decode cJ9_floorDiv_7cf53 5 = .ok (.iload_n 1, 1) := by decide +kernel
theorem dJ9_floorDiv_7cf53_6 : decode cJ9_floorDiv_7cf53 6 = .ok (.ixor, 1) := by decide +kernel
theorem dJ9_floorDiv_7cf53_7 : decode cJ9_floorDiv_7cf53 7 = .ok (.ifCond .ge 14, 3) := by decide +kernel
theorem dJ9_floorDiv_7cf53_10 : decode cJ9_floorDiv_7cf53 10 = .ok (.iload_n 2, 1) := by decide +kernel
theorem dJ9_floorDiv_7cf53_11 : decode cJ9_floorDiv_7cf53 11 = .ok (.iload_n 1, 1) := by decide +kernel
theorem dJ9_floorDiv_7cf53_12 : decode cJ9_floorDiv_7cf53 12 = .ok (.imul, 1) := by decide +kernel
theorem dJ9_floorDiv_7cf53_13 : decode cJ9_floorDiv_7cf53 13 = .ok (.iload_n 0, 1) := by decide +kernel
theorem dJ9_floorDiv_7cf53_14 : decode cJ9_floorDiv_7cf53 14 = .ok (.if_icmp .eq 7, 3) := by decide +kernel
theorem dJ9_floorDiv_7cf53_17 : decode cJ9_floorDiv_7cf53 17 = .ok (.iload_n 2, 1) := by decide +kernel
theorem dJ9_floorDiv_7cf53_18 : decode cJ9_floorDiv_7cf53 18 = .ok (.iconst 1, 1) := by decide +kernel
theorem dJ9_floorDiv_7cf53_19 : decode cJ9_floorDiv_7cf53 19 = .ok (.isub, 1) := by decide +kernel
theorem dJ9_floorDiv_7cf53_20 : decode cJ9_floorDiv_7cf53 20 = .ok (.ireturn, 1) := by decide +kernel
theorem dJ9_floorDiv_7cf53_21 : decode cJ9_floorDiv_7cf53 21 = .ok (.iload_n 2, 1) := by decide +kernel
theorem dJ9_floorDiv_7cf53_22 : decode cJ9_floorDiv_7cf53 22 = .ok (.ireturn, 1) := by decide +kernel
theorem dJ9_abs_067f4_0 : decode cJ9_abs_067f4 0 = .ok (.lload_n 0, 1) := by decide +kernel
theorem dJ9_abs_067f4_1 : decode cJ9_abs_067f4 1 = .ok (.lconst 0, 1) := by decide +kernel
theorem dJ9_abs_067f4_2 : decode cJ9_abs_067f4 2 = .ok (.lcmp, 1) := by decide +kernel
theorem dJ9_abs_067f4_3 : decode cJ9_abs_067f4 3 = .ok (.ifCond .ge 8, 3) := by decide +kernel
theorem dJ9_abs_067f4_6 : decode cJ9_abs_067f4 6 = .ok (.lload_n 0, 1) := by decide +kernel
theorem dJ9_abs_067f4_7 : decode cJ9_abs_067f4 7 = .ok (.lneg, 1) := by decide +kernel
theorem dJ9_abs_067f4_8 : decode cJ9_abs_067f4 8 = .ok (.goto 4, 3) := by decide +kernel
theorem dJ9_abs_067f4_11 : decode cJ9_abs_067f4 11 = .ok (.lload_n 0, 1) := by decide +kernel
theorem dJ9_abs_067f4_12 : decode cJ9_abs_067f4 12 = .ok (.lreturn, 1) := by decide +kernel
theorem dJ9_max_7cf53_0 : decode cJ9_max_7cf53 0 = .ok (.iload_n 0, 1) := by decide +kernel
theorem dJ9_max_7cf53_1 : decode cJ9_max_7cf53 1 = .ok (.iload_n 1, 1) := by decide +kernel
theorem dJ9_max_7cf53_2 : decode cJ9_max_7cf53 2 = .ok (.if_icmp .lt 7, 3) := by decide +kernel
theorem dJ9_max_7cf53_5 : decode cJ9_max_7cf53 5 = .ok (.iload_n 0, 1) := by decide +kernel
theorem dJ9_max_7cf53_6 : decode cJ9_max_7cf53 6 = .ok (.goto 4, 3) := by decide +kernel
theorem dJ9_max_7cf53_9 : decode cJ9_max_7cf53 9 = .ok (.iload_n 1, 1) := by decide +kernel
theorem dJ9_max_7cf53_10 : decode cJ9_max_7cf53 10 = .ok (.ireturn, 1) := by decide +kernel
theorem dJ9_min_7cf53_0 : decode cJ9_min_7cf53 0 = .ok (.iload_n 0, 1) := by decide +kernel
theorem dJ9_min_7cf53_1 : decode cJ9_min_7cf53 1 = .ok (.iload_n 1, 1) := by decide +kernel
theorem dJ9_min_7cf53_2 : decode cJ9_min_7cf53 2 = .ok (.if_icmp .gt 7, 3) := by decide +kernel
theorem dJ9_min_7cf53_5 : decode cJ9_min_7cf53 5 = .ok (.iload_n 0, 1) := by decide +kernel
theorem dJ9_min_7cf53_6 : decode cJ9_min_7cf53 6 = .ok (.goto 4, 3) := by decide +kernel
theorem dJ9_min_7cf53_9 : decode cJ9_min_7cf53 9 = .ok (.iload_n 1, 1) := by decide +kernel
theorem dJ9_min_7cf53_10 : decode cJ9_min_7cf53 10 = .ok (.ireturn, 1) := by decide +kernel
theorem dL_cell_0 : decode cL_cell 0 = .ok (.iload_n 1, 1) := by decide +kernel
theorem dL_cell_1 : decode cL_cell 1 = .ok (.aload_n 0, 1) := by decide +kernel
theorem dL_cell_2 : decode cL_cell 2 = .ok (.arraylength, 1) := by decide +kernel
theorem dL_cell_3 : decode cL_cell 3 = .ok (.if_icmp .ge 9, 3) := by decide +kernel
theorem dL_cell_6 : decode cL_cell 6 = .ok (.aload_n 0, 1) := by decide +kernel
theorem dL_cell_7 : decode cL_cell 7 = .ok (.iload_n 1, 1) := by decide +kernel
theorem dL_cell_8 : decode cL_cell 8 = .ok (.iaload, 1) := by decide +kernel
theorem dL_cell_9 : decode cL_cell 9 = .ok (.goto 11, 3) := by decide +kernel
theorem dL_cell_12 : decode cL_cell 12 = .ok (.sipush 7919, 3) := by decide +kernel
theorem dL_cell_15 : decode cL_cell 15 = .ok (.iload_n 1, 1) := by decide +kernel
theorem dL_cell_16 : decode cL_cell 16 = .ok (.imul, 1) := by decide +kernel
theorem dL_cell_17 : decode cL_cell 17 = .ok (.bipush 12, 2) := by decide +kernel
theorem dL_cell_19 : decode cL_cell 19 = .ok (.iadd, 1) := by decide +kernel
theorem dL_cell_20 : decode cL_cell 20 = .ok (.ireturn, 1) := by decide +kernel
theorem dL_pick_0 : decode cL_pick 0 = .ok (.iload_n 0, 1) := by decide +kernel
theorem dL_pick_1 : decode cL_pick 1 = .ok (.ldc 7, 2) := by decide +kernel
theorem dL_pick_3 : decode cL_pick 3 = .ok (.iand, 1) := by decide +kernel
theorem dL_pick_4 : decode cL_pick 4 = .ok (.iload_n 1, 1) := by decide +kernel
theorem dL_pick_5 : decode cL_pick 5 = .ok (.irem, 1) := by decide +kernel
theorem dL_pick_6 : decode cL_pick 6 = .ok (.ireturn, 1) := by decide +kernel
theorem dL_guard_0 : decode cL_guard 0 = .ok (.iconst 0, 1) := by decide +kernel
theorem dL_guard_1 : decode cL_guard 1 = .ok (.istore_n 3, 1) := by decide +kernel
theorem dL_guard_2 : decode cL_guard 2 = .ok (.iload_n 3, 1) := by decide +kernel
theorem dL_guard_3 : decode cL_guard 3 = .ok (.bipush 8, 2) := by decide +kernel
theorem dL_guard_5 : decode cL_guard 5 = .ok (.if_icmp .ge 56, 3) := by decide +kernel
theorem dL_guard_8 : decode cL_guard 8 = .ok (.aload_n 0, 1) := by decide +kernel
theorem dL_guard_9 : decode cL_guard 9 = .ok (.iload_n 3, 1) := by decide +kernel
theorem dL_guard_10 : decode cL_guard 10 = .ok (.aload_n 1, 1) := by decide +kernel
theorem dL_guard_11 : decode cL_guard 11 = .ok (.iload_n 3, 1) := by decide +kernel
theorem dL_guard_12 : decode cL_guard 12 = .ok (.invokestatic 18, 3) := by decide +kernel
theorem dL_guard_15 : decode cL_guard 15 = .ok (.iconst 3, 1) := by decide +kernel
theorem dL_guard_16 : decode cL_guard 16 = .ok (.invokestatic 24, 3) := by decide +kernel
theorem dL_guard_19 : decode cL_guard 19 = .ok (.ifCond .ne 20, 3) := by decide +kernel
theorem dL_guard_22 : decode cL_guard 22 = .ok (.aload_n 1, 1) := by decide +kernel
theorem dL_guard_23 : decode cL_guard 23 = .ok (.iload_n 3, 1) := by decide +kernel
theorem dL_guard_24 : decode cL_guard 24 = .ok (.invokestatic 18, 3) := by decide +kernel
theorem dL_guard_27 : decode cL_guard 27 = .ok (.iconst 3, 1) := by decide +kernel
theorem dL_guard_28 : decode cL_guard 28 = .ok (.ishr, 1) := by decide +kernel
theorem dL_guard_29 : decode cL_guard 29 = .ok (.iconst 4, 1) := by decide +kernel
theorem dL_guard_30 : decode cL_guard 30 = .ok (.invokestatic 24, 3) := by decide +kernel
theorem dL_guard_33 : decode cL_guard 33 = .ok (.bipush 33, 2) := by decide +kernel
theorem dL_guard_35 : decode cL_guard 35 = .ok (.imul, 1) := by decide +kernel
theorem dL_guard_36 : decode cL_guard 36 = .ok (.goto 15, 3) := by decide +kernel
theorem dL_guard_39 : decode cL_guard 39 = .ok (.aload_n 1, 1) := by decide +kernel
theorem dL_guard_40 : decode cL_guard 40 = .ok (.iload_n 3, 1) := by decide +kernel
theorem dL_guard_41 : decode cL_guard 41 = .ok (.invokestatic 18, 3) := by decide +kernel
theorem dL_guard_44 : decode cL_guard 44 = .ok (.iconst 3, 1) := by decide +kernel
theorem dL_guard_45 : decode cL_guard 45 = .ok (.ishr, 1) := by decide +kernel
theorem dL_guard_46 : decode cL_guard 46 = .ok (.bipush 100, 2) := by decide +kernel
theorem dL_guard_48 : decode cL_guard 48 = .ok (.invokestatic 24, 3) := by decide +kernel
theorem dL_guard_51 : decode cL_guard 51 = .ok (.invokevirtual 28, 3) := by decide +kernel
theorem dL_guard_54 : decode cL_guard 54 = .ok (.pop, 1) := by decide +kernel
theorem dL_guard_55 : decode cL_guard 55 = .ok (.iinc 3 1, 3) := by decide +kernel
theorem dL_guard_58 : decode cL_guard 58 = .ok (.goto (-56), 3) := by decide +kernel
theorem dL_guard_61 : decode cL_guard 61 = .ok (.aload_n 0, 1) := by decide +kernel
theorem dL_guard_62 : decode cL_guard 62 = .ok (.iconst 2, 1) := by decide +kernel
theorem dL_guard_63 : decode cL_guard 63 = .ok (.aload_n 1, 1) := by decide +kernel
theorem dL_guard_64 : decode cL_guard 64 = .ok (.bipush 8, 2) := by decide +kernel
theorem dL_guard_66 : decode cL_guard 66 = .ok (.invokestatic 18, 3) := by decide +kernel
theorem dL_guard_69 : decode cL_guard 69 = .ok (.bipush 9, 2) := by decide +kernel
theorem dL_guard_71 : decode cL_guard 71 = .ok (.invokestatic 24, 3) := by decide +kernel
theorem dL_guard_74 : decode cL_guard 74 = .ok (.iadd, 1) := by decide +kernel
theorem dL_guard_75 : decode cL_guard 75 = .ok (.invokevirtual 31, 3) := by decide +kernel
theorem dL_guard_78 : decode cL_guard 78 = .ok (.pop, 1) := by decide +kernel
theorem dL_guard_79 : decode cL_guard 79 = .ok (.aload_n 0, 1) := by decide +kernel
theorem dL_guard_80 : decode cL_guard 80 = .ok (.aload_n 1, 1) := by decide +kernel
theorem dL_guard_81 : decode cL_guard 81 = .ok (.bipush 9, 2) := by decide +kernel
theorem dL_guard_83 : decode cL_guard 83 = .ok (.invokestatic 18, 3) := by decide +kernel
theorem dL_guard_86 : decode cL_guard 86 = .ok (.iconst 4, 1) := by decide +kernel
theorem dL_guard_87 : decode cL_guard 87 = .ok (.invokestatic 24, 3) := by decide +kernel
theorem dL_guard_90 : decode cL_guard 90 = .ok (.invokevirtual 34, 3) := by decide +kernel
theorem dL_guard_93 : decode cL_guard 93 = .ok (.pop, 1) := by decide +kernel
theorem dL_guard_94 : decode cL_guard 94 = .ok (.iconst 0, 1) := by decide +kernel
theorem dL_guard_95 : decode cL_guard 95 = .ok (.istore_n 3, 1) := by decide +kernel
theorem dL_guard_96 : decode cL_guard 96 = .ok (.iload_n 3, 1) := by decide +kernel
theorem dL_guard_97 : decode cL_guard 97 = .ok (.iload_n 2, 1) := by decide +kernel
theorem dL_guard_98 : decode cL_guard 98 = .ok (.if_icmp .ge 223, 3) := by decide +kernel
theorem dL_guard_101 : decode cL_guard 101 = .ok (.aload_n 1, 1) := by decide +kernel
theorem dL_guard_102 : decode cL_guard 102 = .ok (.bipush 10, 2) := by decide +kernel
theorem dL_guard_104 : decode cL_guard 104 = .ok (.iload_n 3, 1) := by decide +kernel
theorem dL_guard_105 : decode cL_guard 105 = .ok (.iadd, 1) := by decide +kernel
theorem dL_guard_106 : decode cL_guard 106 = .ok (.invokestatic 18, 3) := by decide +kernel
theorem dL_guard_109 : decode cL_guard 109 = .ok (.istore 4, 2) := by decide +kernel
theorem dL_guard_111 : decode cL_guard 111 = .ok (.iload 4, 2) := by decide +kernel
theorem dL_guard_113 : decode cL_guard 113 = .ok (.bipush 12, 2) := by decide +kernel
theorem dL_guard_115 : decode cL_guard 115 = .ok (.invokestatic 24, 3) := by decide +kernel
theorem dL_guard_118 : decode cL_guard 118 = .ok (.istore 5, 2) := by decide +kernel
theorem dL_guard_120 : decode cL_guard 120 = .ok (.iconst 1, 1) := by decide +kernel
theorem dL_guard_121 : decode cL_guard 121 = .ok (.iload 4, 2) := by decide +kernel
theorem dL_guard_123 : decode cL_guard 123 = .ok (.iconst 4, 1) := by decide +kernel
theorem dL_guard_124 : decode cL_guard 124 = .ok (.ishr, 1) := by decide +kernel
theorem dL_guard_125 : decode cL_guard 125 = .ok (.sipush 255, 3) := by decide +kernel
theorem dL_guard_128 : decode cL_guard 128 = .ok (.invokestatic 24, 3) := by decide +kernel
theorem dL_guard_131 : decode cL_guard 131 = .ok (.iadd, 1) := by decide +kernel
theorem dL_guard_132 : decode cL_guard 132 = .ok (.istore 6, 2) := by decide +kernel
theorem dL_guard_134 : decode cL_guard 134 = .ok (.iload 5, 2) := by decide +kernel
theorem dL_guard_136 : decode cL_guard 136 = .ok (.bipush 6, 2) := by decide +kernel
theorem dL_guard_138 : decode cL_guard 138 = .ok (.if_icmp .ge 15, 3) := by decide +kernel
theorem dL_guard_141 : decode cL_guard 141 = .ok (.aload_n 0, 1) := by decide +kernel
theorem dL_guard_142 : decode cL_guard 142 = .ok (.iconst 0, 1) := by decide +kernel
theorem dL_guard_143 : decode cL_guard 143 = .ok (.iload 6, 2) := by decide +kernel
theorem dL_guard_145 : decode cL_guard 145 = .ok (.iconst 0, 1) := by decide +kernel
theorem dL_guard_146 : decode cL_guard 146 = .ok (.invokevirtual 37, 3) := by decide +kernel
theorem dL_guard_149 : decode cL_guard 149 = .ok (.pop, 1) := by decide +kernel
theorem dL_guard_150 : decode cL_guard 150 = .ok (.goto 165, 3) := by decide +kernel
theorem dL_guard_153 : decode cL_guard 153 = .ok (.iload 5, 2) := by decide +kernel
theorem dL_guard_155 : decode cL_guard 155 = .ok (.bipush 6, 2) := by decide +kernel
theorem dL_guard_157 : decode cL_guard 157 = .ok (.if_icmp .ne 28, 3) := by decide +kernel
theorem dL_guard_160 : decode cL_guard 160 = .ok (.aload_n 0, 1) := by decide +kernel
theorem dL_guard_161 : decode cL_guard 161 = .ok (.iconst 1, 1) := by decide +kernel
theorem dL_guard_162 : decode cL_guard 162 = .ok (.iload 6, 2) := by decide +kernel
theorem dL_guard_164 : decode cL_guard 164 = .ok (.iload 4, 2) := by decide +kernel
theorem dL_guard_166 : decode cL_guard 166 = .ok (.bipush 12, 2) := by decide +kernel
theorem dL_guard_168 : decode cL_guard 168 = .ok (.ishr, 1) := by decide +kernel
theorem dL_guard_169 : decode cL_guard 169 = .ok (.sipush 255, 3) := by decide +kernel
theorem dL_guard_172 : decode cL_guard 172 = .ok (.iand, 1) := by decide +kernel
theorem dL_guard_173 : decode cL_guard 173 = .ok (.iload 6, 2) := by decide +kernel
theorem dL_guard_175 : decode cL_guard 175 = .ok (.iconst (-1), 1) := by decide +kernel
theorem dL_guard_176 : decode cL_guard 176 = .ok (.ixor, 1) := by decide +kernel
theorem dL_guard_177 : decode cL_guard 177 = .ok (.iand, 1) := by decide +kernel
theorem dL_guard_178 : decode cL_guard 178 = .ok (.invokevirtual 37, 3) := by decide +kernel
theorem dL_guard_181 : decode cL_guard 181 = .ok (.pop, 1) := by decide +kernel
theorem dL_guard_182 : decode cL_guard 182 = .ok (.goto 133, 3) := by decide +kernel
theorem dL_guard_185 : decode cL_guard 185 = .ok (.iload 5, 2) := by decide +kernel
theorem dL_guard_187 : decode cL_guard 187 = .ok (.bipush 7, 2) := by decide +kernel
theorem dL_guard_189 : decode cL_guard 189 = .ok (.if_icmp .ne 25, 3) := by decide +kernel
theorem dL_guard_192 : decode cL_guard 192 = .ok (.aload_n 0, 1) := by decide +kernel
theorem dL_guard_193 : decode cL_guard 193 = .ok (.iconst 2, 1) := by decide +kernel
theorem dL_guard_194 : decode cL_guard 194 = .ok (.iload 6, 2) := by decide +kernel
theorem dL_guard_196 : decode cL_guard 196 = .ok (.iconst 1, 1) := by decide +kernel
theorem dL_guard_197 : decode cL_guard 197 = .ok (.iload 4, 2) := by decide +kernel
theorem dL_guard_199 : decode cL_guard 199 = .ok (.bipush 12, 2) := by decide +kernel
theorem dL_guard_201 : decode cL_guard 201 = .ok (.ishr, 1) := by decide +kernel
theorem dL_guard_202 : decode cL_guard 202 = .ok (.iconst 3, 1) := by decide +kernel
theorem dL_guard_203 : decode cL_guard 203 = .ok (.invokestatic 24, 3) := by decide +kernel
theorem dL_guard_206 : decode cL_guard 206 = .ok (.iadd, 1) := by decide +kernel
theorem dL_guard_207 : decode cL_guard 207 = .ok (.invokevirtual 37, 3) := by decide +kernel
theorem dL_guard_210 : decode cL_guard 210 = .ok (.pop, 1) := by decide +kernel
theorem dL_guard_211 : decode cL_guard 211 = .ok (.goto 104, 3) := by decide +kernel
theorem dL_guard_214 : decode cL_guard 214 = .ok (.iload 5, 2) := by decide +kernel
theorem dL_guard_216 : decode cL_guard 216 = .ok (.bipush 8, 2) := by decide +kernel
theorem dL_guard_218 : decode cL_guard 218 = .ok (.if_icmp .ne 30, 3) := by decide +kernel
theorem dL_guard_221 : decode cL_guard 221 = .ok (.aload_n 0, 1) := by decide +kernel
theorem dL_guard_222 : decode cL_guard 222 = .ok (.iload 4, 2) := by decide +kernel
theorem dL_guard_224 : decode cL_guard 224 = .ok (.iconst 4, 1) := by decide +kernel
theorem dL_guard_225 : decode cL_guard 225 = .ok (.ishr, 1) := by decide +kernel
theorem dL_guard_226 : decode cL_guard 226 = .ok (.bipush 8, 2) := by decide +kernel
theorem dL_guard_228 : decode cL_guard 228 = .ok (.invokestatic 24, 3) := by decide +kernel
theorem dL_guard_231 : decode cL_guard 231 = .ok (.iload 4, 2) := by decide +kernel
theorem dL_guard_233 : decode cL_guard 233 = .ok (.bipush 7, 2) := by decide +kernel
theorem dL_guard_235 : decode cL_guard 235 = .ok (.ishr, 1) := by decide +kernel
theorem dL_guard_236 : decode cL_guard 236 = .ok (.bipush 100, 2) := by decide +kernel
theorem dL_guard_238 : decode cL_guard 238 = .ok (.invokestatic 24, 3) := by decide +kernel
theorem dL_guard_241 : decode cL_guard 241 = .ok (.invokevirtual 41, 3) := by decide +kernel
theorem dL_guard_244 : decode cL_guard 244 = .ok (.pop, 1) := by decide +kernel
theorem dL_guard_245 : decode cL_guard 245 = .ok (.goto 70, 3) := by decide +kernel
theorem dL_guard_248 : decode cL_guard 248 = .ok (.iload 5, 2) := by decide +kernel
theorem dL_guard_250 : decode cL_guard 250 = .ok (.bipush 11, 2) := by decide +kernel
theorem dL_guard_252 : decode cL_guard 252 = .ok (.if_icmp .ge 39, 3) := by decide +kernel
theorem dL_guard_255 : decode cL_guard 255 = .ok (.aload_n 0, 1) := by decide +kernel
theorem dL_guard_256 : decode cL_guard 256 = .ok (.iload 4, 2) := by decide +kernel
theorem dL_guard_258 : decode cL_guard 258 = .ok (.iconst 4, 1) := by decide +kernel
theorem dL_guard_259 : decode cL_guard 259 = .ok (.ishr, 1) := by decide +kernel
theorem dL_guard_260 : decode cL_guard 260 = .ok (.bipush 10, 2) := by decide +kernel
theorem dL_guard_262 : decode cL_guard 262 = .ok (.invokestatic 24, 3) := by decide +kernel
theorem dL_guard_265 : decode cL_guard 265 = .ok (.iload 4, 2) := by decide +kernel
theorem dL_guard_267 : decode cL_guard 267 = .ok (.bipush 8, 2) := by decide +kernel
theorem dL_guard_269 : decode cL_guard 269 = .ok (.ishr, 1) := by decide +kernel
theorem dL_guard_270 : decode cL_guard 270 = .ok (.bipush 12, 2) := by decide +kernel
theorem dL_guard_272 : decode cL_guard 272 = .ok (.invokestatic 24, 3) := by decide +kernel
theorem dL_guard_275 : decode cL_guard 275 = .ok (.iload 4, 2) := by decide +kernel
theorem dL_guard_277 : decode cL_guard 277 = .ok (.bipush 12, 2) := by decide +kernel
theorem dL_guard_279 : decode cL_guard 279 = .ok (.ishr, 1) := by decide +kernel
theorem dL_guard_280 : decode cL_guard 280 = .ok (.bipush 12, 2) := by decide +kernel
theorem dL_guard_282 : decode cL_guard 282 = .ok (.invokestatic 24, 3) := by decide +kernel
theorem dL_guard_285 : decode cL_guard 285 = .ok (.invokestatic 44, 3) := by decide +kernel
theorem dL_guard_288 : decode cL_guard 288 = .ok (.goto 27, 3) := by decide +kernel
theorem dL_guard_291 : decode cL_guard 291 = .ok (.aload_n 0, 1) := by decide +kernel
theorem dL_guard_292 : decode cL_guard 292 = .ok (.iload 4, 2) := by decide +kernel
theorem dL_guard_294 : decode cL_guard 294 = .ok (.iconst 4, 1) := by decide +kernel
theorem dL_guard_295 : decode cL_guard 295 = .ok (.ishr, 1) := by decide +kernel
theorem dL_guard_296 : decode cL_guard 296 = .ok (.bipush 8, 2) := by decide +kernel
theorem dL_guard_298 : decode cL_guard 298 = .ok (.invokestatic 24, 3) := by decide +kernel
theorem dL_guard_301 : decode cL_guard 301 = .ok (.iload 4, 2) := by decide +kernel
theorem dL_guard_303 : decode cL_guard 303 = .ok (.bipush 7, 2) := by decide +kernel
theorem dL_guard_305 : decode cL_guard 305 = .ok (.ishr, 1) := by decide +kernel
theorem dL_guard_306 : decode cL_guard 306 = .ok (.bipush 100, 2) := by decide +kernel
theorem dL_guard_308 : decode cL_guard 308 = .ok (.invokestatic 24, 3) := by decide +kernel
theorem dL_guard_311 : decode cL_guard 311 = .ok (.invokevirtual 28, 3) := by decide +kernel
theorem dL_guard_314 : decode cL_guard 314 = .ok (.pop, 1) := by decide +kernel
theorem dL_guard_315 : decode cL_guard 315 = .ok (.iinc 3 1, 3) := by decide +kernel
theorem dL_guard_318 : decode cL_guard 318 = .ok (.goto (-222), 3) := by decide +kernel
theorem dL_guard_321 : decode cL_guard 321 = .ok (.return_, 1) := by decide +kernel
theorem dL_bound_0 : decode cL_bound 0 = .ok (.aload_n 0, 1) := by decide +kernel
theorem dL_bound_1 : decode cL_bound 1 = .ok (.iload_n 1, 1) := by decide +kernel
theorem dL_bound_2 : decode cL_bound 2 = .ok (.iconst 0, 1) := by decide +kernel
theorem dL_bound_3 : decode cL_bound 3 = .ok (.invokevirtual 48, 3) := by decide +kernel
theorem dL_bound_6 : decode cL_bound 6 = .ok (.istore 4, 2) := by decide +kernel
theorem dL_bound_8 : decode cL_bound 8 = .ok (.iload 4, 2) := by decide +kernel
theorem dL_bound_10 : decode cL_bound 10 = .ok (.ifCond .lt 26, 3) := by decide +kernel
theorem dL_bound_13 : decode cL_bound 13 = .ok (.aload_n 0, 1) := by decide +kernel
theorem dL_bound_14 : decode cL_bound 14 = .ok (.iload_n 1, 1) := by decide +kernel
theorem dL_bound_15 : decode cL_bound 15 = .ok (.iconst 0, 1) := by decide +kernel
theorem dL_bound_16 : decode cL_bound 16 = .ok (.iload 4, 2) := by decide +kernel
theorem dL_bound_18 : decode cL_bound 18 = .ok (.iload_n 2, 1) := by decide +kernel
theorem dL_bound_19 : decode cL_bound 19 = .ok (.isub, 1) := by decide +kernel
theorem dL_bound_20 : decode cL_bound 20 = .ok (.invokestatic 51, 3) := by decide +kernel
theorem dL_bound_23 : decode cL_bound 23 = .ok (.bipush 99, 2) := by decide +kernel
theorem dL_bound_25 : decode cL_bound 25 = .ok (.iload 4, 2) := by decide +kernel
theorem dL_bound_27 : decode cL_bound 27 = .ok (.iload_n 3, 1) := by decide +kernel
theorem dL_bound_28 : decode cL_bound 28 = .ok (.iadd, 1) := by decide +kernel
theorem dL_bound_29 : decode cL_bound 29 = .ok (.invokestatic 56, 3) := by decide +kernel
theorem dL_bound_32 : decode cL_bound 32 = .ok (.invokevirtual 59, 3) := by decide +kernel
theorem dL_bound_35 : decode cL_bound 35 = .ok (.pop, 1) := by decide +kernel
theorem dL_bound_36 : decode cL_bound 36 = .ok (.return_, 1) := by decide +kernel
theorem dL_law_0 : decode cL_law 0 = .ok (.new 9, 3) := by decide +kernel
theorem dL_law_3 : decode cL_law 3 = .ok (.dup, 1) := by decide +kernel
theorem dL_law_4 : decode cL_law 4 = .ok (.invokespecial 62, 3) := by decide +kernel
theorem dL_law_7 : decode cL_law 7 = .ok (.astore_n 1, 1) := by decide +kernel
theorem dL_law_8 : decode cL_law 8 = .ok (.aload_n 1, 1) := by decide +kernel
theorem dL_law_9 : decode cL_law 9 = .ok (.aload_n 0, 1) := by decide +kernel
theorem dL_law_10 : decode cL_law 10 = .ok (.bipush 14, 2) := by decide +kernel
theorem dL_law_12 : decode cL_law 12 = .ok (.invokestatic 63, 3) := by decide +kernel
theorem dL_law_15 : decode cL_law 15 = .ok (.aload_n 1, 1) := by decide +kernel
theorem dL_law_16 : decode cL_law 16 = .ok (.invokevirtual 66, 3) := by decide +kernel
theorem dL_law_19 : decode cL_law 19 = .ok (.istore_n 2, 1) := by decide +kernel
theorem dL_law_20 : decode cL_law 20 = .ok (.aload_n 1, 1) := by decide +kernel
theorem dL_law_21 : decode cL_law 21 = .ok (.iconst 1, 1) := by decide +kernel
theorem dL_law_22 : decode cL_law 22 = .ok (.invokevirtual 69, 3) := by decide +kernel
theorem dL_law_25 : decode cL_law 25 = .ok (.istore_n 3, 1) := by decide +kernel
theorem dL_law_26 : decode cL_law 26 = .ok (.iconst 0, 1) := by decide +kernel
theorem dL_law_27 : decode cL_law 27 = .ok (.istore 4, 2) := by decide +kernel
theorem dL_law_29 : decode cL_law 29 = .ok (.iload 4, 2) := by decide +kernel
theorem dL_law_31 : decode cL_law 31 = .ok (.bipush 8, 2) := by decide +kernel
theorem dL_law_33 : decode cL_law 33 = .ok (.if_icmp .ge 153, 3) := by decide +kernel
theorem dL_law_36 : decode cL_law 36 = .ok (.iconst 0, 1) := by decide +kernel
theorem dL_law_37 : decode cL_law 37 = .ok (.istore 5, 2) := by decide +kernel
theorem dL_law_39 : decode cL_law 39 = .ok (.iload 5, 2) := by decide +kernel
theorem dL_law_41 : decode cL_law 41 = .ok (.iconst 4, 1) := by decide +kernel
theorem dL_law_42 : decode cL_law 42 = .ok (.if_icmp .ge 34, 3) := by decide +kernel
theorem dL_law_45 : decode cL_law 45 = .ok (.aload_n 1, 1) := by decide +kernel
theorem dL_law_46 : decode cL_law 46 = .ok (.iload 5, 2) := by decide +kernel
theorem dL_law_48 : decode cL_law 48 = .ok (.invokevirtual 34, 3) := by decide +kernel
theorem dL_law_51 : decode cL_law 51 = .ok (.ifCond .lt 17, 3) := by decide +kernel
theorem dL_law_54 : decode cL_law 54 = .ok (.aload_n 1, 1) := by decide +kernel
theorem dL_law_55 : decode cL_law 55 = .ok (.iconst 0, 1) := by decide +kernel
theorem dL_law_56 : decode cL_law 56 = .ok (.iconst 1, 1) := by decide +kernel
theorem dL_law_57 : decode cL_law 57 = .ok (.iload 4, 2) := by decide +kernel
theorem dL_law_59 : decode cL_law 59 = .ok (.ishl, 1) := by decide +kernel
theorem dL_law_60 : decode cL_law 60 = .ok (.iconst 0, 1) := by decide +kernel
theorem dL_law_61 : decode cL_law 61 = .ok (.invokevirtual 72, 3) := by decide +kernel
theorem dL_law_64 : decode cL_law 64 = .ok (.iconst 2, 1) := by decide +kernel
theorem dL_law_65 : decode cL_law 65 = .ok (.if_icmp .eq 5, 3) := by decide +kernel
theorem dL_law_68 : decode cL_law 68 = .ok (.iconst 0, 1) := by decide +kernel
theorem dL_law_69 : decode cL_law 69 = .ok (.ireturn, 1) := by decide +kernel
theorem dL_law_70 : decode cL_law 70 = .ok (.iinc 5 1, 3) := by decide +kernel
theorem dL_law_73 : decode cL_law 73 = .ok (.goto (-34), 3) := by decide +kernel
theorem dL_law_76 : decode cL_law 76 = .ok (.aload_n 1, 1) := by decide +kernel
theorem dL_law_77 : decode cL_law 77 = .ok (.iload 4, 2) := by decide +kernel
theorem dL_law_79 : decode cL_law 79 = .ok (.iconst 1, 1) := by decide +kernel
theorem dL_law_80 : decode cL_law 80 = .ok (.invokevirtual 75, 3) := by decide +kernel
theorem dL_law_83 : decode cL_law 83 = .ok (.istore 5, 2) := by decide +kernel
theorem dL_law_85 : decode cL_law 85 = .ok (.aload_n 1, 1) := by decide +kernel
theorem dL_law_86 : decode cL_law 86 = .ok (.iload 4, 2) := by decide +kernel
theorem dL_law_88 : decode cL_law 88 = .ok (.iconst 0, 1) := by decide +kernel
theorem dL_law_89 : decode cL_law 89 = .ok (.invokevirtual 75, 3) := by decide +kernel
theorem dL_law_92 : decode cL_law 92 = .ok (.istore 6, 2) := by decide +kernel
theorem dL_law_94 : decode cL_law 94 = .ok (.aload_n 1, 1) := by decide +kernel
theorem dL_law_95 : decode cL_law 95 = .ok (.iconst 0, 1) := by decide +kernel
theorem dL_law_96 : decode cL_law 96 = .ok (.iconst 1, 1) := by decide +kernel
theorem dL_law_97 : decode cL_law 97 = .ok (.iload 4, 2) := by decide +kernel
theorem dL_law_99 : decode cL_law 99 = .ok (.ishl, 1) := by decide +kernel
theorem dL_law_100 : decode cL_law 100 = .ok (.iconst 0, 1) := by decide +kernel
theorem dL_law_101 : decode cL_law 101 = .ok (.invokevirtual 37, 3) := by decide +kernel
theorem dL_law_104 : decode cL_law 104 = .ok (.ldc 78, 2) := by decide +kernel
theorem dL_law_106 : decode cL_law 106 = .ok (.if_icmp .ne 72, 3) := by decide +kernel
theorem dL_law_109 : decode cL_law 109 = .ok (.aload_n 1, 1) := by decide +kernel
theorem dL_law_110 : decode cL_law 110 = .ok (.invokevirtual 79, 3) := by decide +kernel
theorem dL_law_113 : decode cL_law 113 = .ok (.iload_n 2, 1) := by decide +kernel
theorem dL_law_114 : decode cL_law 114 = .ok (.if_icmp .ne 64, 3) := by decide +kernel
theorem dL_law_117 : decode cL_law 117 = .ok (.aload_n 1, 1) := by decide +kernel
theorem dL_law_118 : decode cL_law 118 = .ok (.iload 5, 2) := by decide +kernel
theorem dL_law_120 : decode cL_law 120 = .ok (.iconst 0, 1) := by decide +kernel
theorem dL_law_121 : decode cL_law 121 = .ok (.invokevirtual 48, 3) := by decide +kernel
theorem dL_law_124 : decode cL_law 124 = .ok (.iload 6, 2) := by decide +kernel
theorem dL_law_126 : decode cL_law 126 = .ok (.if_icmp .ne 52, 3) := by decide +kernel
theorem dL_law_129 : decode cL_law 129 = .ok (.aload_n 1, 1) := by decide +kernel
theorem dL_law_130 : decode cL_law 130 = .ok (.iload 5, 2) := by decide +kernel
theorem dL_law_132 : decode cL_law 132 = .ok (.iconst 3, 1) := by decide +kernel
theorem dL_law_133 : decode cL_law 133 = .ok (.invokevirtual 48, 3) := by decide +kernel
theorem dL_law_136 : decode cL_law 136 = .ok (.iload 6, 2) := by decide +kernel
theorem dL_law_138 : decode cL_law 138 = .ok (.if_icmp .gt 40, 3) := by decide +kernel
theorem dL_law_141 : decode cL_law 141 = .ok (.aload_n 1, 1) := by decide +kernel
theorem dL_law_142 : decode cL_law 142 = .ok (.iload 5, 2) := by decide +kernel
theorem dL_law_144 : decode cL_law 144 = .ok (.iconst 4, 1) := by decide +kernel
theorem dL_law_145 : decode cL_law 145 = .ok (.invokevirtual 48, 3) := by decide +kernel
theorem dL_law_148 : decode cL_law 148 = .ok (.iload 6, 2) := by decide +kernel
theorem dL_law_150 : decode cL_law 150 = .ok (.if_icmp .lt 28, 3) := by decide +kernel
theorem dL_law_153 : decode cL_law 153 = .ok (.aload_n 1, 1) := by decide +kernel
theorem dL_law_154 : decode cL_law 154 = .ok (.iload 5, 2) := by decide +kernel
theorem dL_law_156 : decode cL_law 156 = .ok (.iconst 1, 1) := by decide +kernel
theorem dL_law_157 : decode cL_law 157 = .ok (.invokevirtual 82, 3) := by decide +kernel
theorem dL_law_160 : decode cL_law 160 = .ok (.iconst 1, 1) := by decide +kernel
theorem dL_law_161 : decode cL_law 161 = .ok (.if_icmp .lt 17, 3) := by decide +kernel
theorem dL_law_164 : decode cL_law 164 = .ok (.aload_n 1, 1) := by decide +kernel
theorem dL_law_165 : decode cL_law 165 = .ok (.iload 5, 2) := by decide +kernel
theorem dL_law_167 : decode cL_law 167 = .ok (.iconst 0, 1) := by decide +kernel
theorem dL_law_168 : decode cL_law 168 = .ok (.invokevirtual 82, 3) := by decide +kernel
theorem dL_law_171 : decode cL_law 171 = .ok (.iconst 1, 1) := by decide +kernel
theorem dL_law_172 : decode cL_law 172 = .ok (.iload 4, 2) := by decide +kernel
theorem dL_law_174 : decode cL_law 174 = .ok (.ishl, 1) := by decide +kernel
theorem dL_law_175 : decode cL_law 175 = .ok (.if_icmp .le 5, 3) := by decide +kernel
theorem dL_law_178 : decode cL_law 178 = .ok (.iconst 0, 1) := by decide +kernel
theorem dL_law_179 : decode cL_law 179 = .ok (.ireturn, 1) := by decide +kernel
theorem dL_law_180 : decode cL_law 180 = .ok (.iinc 4 1, 3) := by decide +kernel
theorem dL_law_183 : decode cL_law 183 = .ok (.goto (-154), 3) := by decide +kernel
theorem dL_law_186 : decode cL_law 186 = .ok (.aload_n 1, 1) := by decide +kernel
theorem dL_law_187 : decode cL_law 187 = .ok (.invokevirtual 85, 3) := by decide +kernel
theorem dL_law_190 : decode cL_law 190 = .ok (.istore 4, 2) := by decide +kernel
theorem dL_law_192 : decode cL_law 192 = .ok (.iload 4, 2) := by decide +kernel
theorem dL_law_194 : decode cL_law 194 = .ok (.invokestatic 88, 3) := by decide +kernel
theorem dL_law_197 : decode cL_law 197 = .ok (.iload_n 2, 1) := by decide +kernel
theorem dL_law_198 : decode cL_law 198 = .ok (.if_icmp .ne 31, 3) := by decide +kernel
theorem dL_law_201 : decode cL_law 201 = .ok (.iload_n 2, 1) := by decide +kernel
theorem dL_law_202 : decode cL_law 202 = .ok (.iload_n 3, 1) := by decide +kernel
theorem dL_law_203 : decode cL_law 203 = .ok (.if_icmp .ge 26, 3) := by decide +kernel
theorem dL_law_206 : decode cL_law 206 = .ok (.aload_n 1, 1) := by decide +kernel
theorem dL_law_207 : decode cL_law 207 = .ok (.iconst 1, 1) := by decide +kernel
theorem dL_law_208 : decode cL_law 208 = .ok (.invokevirtual 93, 3) := by decide +kernel
theorem dL_law_211 : decode cL_law 211 = .ok (.aload_n 1, 1) := by decide +kernel
theorem dL_law_212 : decode cL_law 212 = .ok (.iconst 2, 1) := by decide +kernel
theorem dL_law_213 : decode cL_law 213 = .ok (.invokevirtual 93, 3) := by decide +kernel
theorem dL_law_216 : decode cL_law 216 = .ok (.iadd, 1) := by decide +kernel
theorem dL_law_217 : decode cL_law 217 = .ok (.aload_n 1, 1) := by decide +kernel
theorem dL_law_218 : decode cL_law 218 = .ok (.iconst 3, 1) := by decide +kernel
theorem dL_law_219 : decode cL_law 219 = .ok (.invokevirtual 93, 3) := by decide +kernel
theorem dL_law_222 : decode cL_law 222 = .ok (.iadd, 1) := by decide +kernel
theorem dL_law_223 : decode cL_law 223 = .ok (.sipush 255, 3) := by decide +kernel
theorem dL_law_226 : decode cL_law 226 = .ok (.if_icmp .eq 5, 3) := by decide +kernel
theorem dL_law_229 : decode cL_law 229 = .ok (.iconst 0, 1) := by decide +kernel
theorem dL_law_230 : decode cL_law 230 = .ok (.ireturn, 1) := by decide +kernel
theorem dL_law_231 : decode cL_law 231 = .ok (.iconst 0, 1) := by decide +kernel
theorem dL_law_232 : decode cL_law 232 = .ok (.istore 5, 2) := by decide +kernel
theorem dL_law_234 : decode cL_law 234 = .ok (.iload 5, 2) := by decide +kernel
theorem dL_law_236 : decode cL_law 236 = .ok (.iload_n 2, 1) := by decide +kernel
theorem dL_law_237 : decode cL_law 237 = .ok (.if_icmp .ge 145, 3) := by decide +kernel
theorem dL_law_240 : decode cL_law 240 = .ok (.iconst 0, 1) := by decide +kernel
theorem dL_law_241 : decode cL_law 241 = .ok (.istore 6, 2) := by decide +kernel
theorem dL_law_243 : decode cL_law 243 = .ok (.iconst 1, 1) := by decide +kernel
theorem dL_law_244 : decode cL_law 244 = .ok (.istore 7, 2) := by decide +kernel
theorem dL_law_246 : decode cL_law 246 = .ok (.iconst 0, 1) := by decide +kernel
theorem dL_law_247 : decode cL_law 247 = .ok (.istore 8, 2) := by decide +kernel
theorem dL_law_249 : decode cL_law 249 = .ok (.iload 8, 2) := by decide +kernel
theorem dL_law_251 : decode cL_law 251 = .ok (.iload_n 3, 1) := by decide +kernel
theorem dL_law_252 : decode cL_law 252 = .ok (.if_icmp .ge 117, 3) := by decide +kernel
theorem dL_law_255 : decode cL_law 255 = .ok (.aload_n 1, 1) := by decide +kernel
theorem dL_law_256 : decode cL_law 256 = .ok (.iload 5, 2) := by decide +kernel
theorem dL_law_258 : decode cL_law 258 = .ok (.iload 8, 2) := by decide +kernel
theorem dL_law_260 : decode cL_law 260 = .ok (.iconst 0, 1) := by decide +kernel
theorem dL_law_261 : decode cL_law 261 = .ok (.invokevirtual 96, 3) := by decide +kernel
theorem dL_law_264 : decode cL_law 264 = .ok (.lstore 9, 2) := by decide +kernel
theorem dL_law_266 : decode cL_law 266 = .ok (.lload 9, 2) := by decide +kernel
theorem dL_law_268 : decode cL_law 268 = .ok (.lconst 0, 1) := by decide +kernel
theorem dL_law_269 : decode cL_law 269 = .ok (.lcmp, 1) := by decide +kernel
theorem dL_law_270 : decode cL_law 270 = .ok (.ifCond .ne 6, 3) := by decide +kernel
theorem dL_law_273 : decode cL_law 273 = .ok (.goto 90, 3) := by decide +kernel
theorem dL_law_276 : decode cL_law 276 = .ok (.iload 7, 2) := by decide +kernel
theorem dL_law_278 : decode cL_law 278 = .ok (.ifCond .eq 35, 3) := by decide +kernel
theorem dL_law_281 : decode cL_law 281 = .ok (.iload 4, 2) := by decide +kernel
theorem dL_law_283 : decode cL_law 283 = .ok (.iload 8, 2) := by decide +kernel
theorem dL_law_285 : decode cL_law 285 = .ok (.ishr, 1) := by decide +kernel
theorem dL_law_286 : decode cL_law 286 = .ok (.iconst 1, 1) := by decide +kernel
theorem dL_law_287 : decode cL_law 287 = .ok (.iand, 1) := by decide +kernel
theorem dL_law_288 : decode cL_law 288 = .ok (.iconst 1, 1) := by decide +kernel
theorem dL_law_289 : decode cL_law 289 = .ok (.if_icmp .ne 54, 3) := by decide +kernel
theorem dL_law_292 : decode cL_law 292 = .ok (.lload 9, 2) := by decide +kernel
theorem dL_law_294 : decode cL_law 294 = .ok (.lconst 1, 1) := by decide +kernel
theorem dL_law_295 : decode cL_law 295 = .ok (.lcmp, 1) := by decide +kernel
theorem dL_law_296 : decode cL_law 296 = .ok (.ifCond .ne 47, 3) := by decide +kernel
theorem dL_law_299 : decode cL_law 299 = .ok (.aload_n 1, 1) := by decide +kernel
theorem dL_law_300 : decode cL_law 300 = .ok (.iload 5, 2) := by decide +kernel
theorem dL_law_302 : decode cL_law 302 = .ok (.iload 8, 2) := by decide +kernel
theorem dL_law_304 : decode cL_law 304 = .ok (.iconst 1, 1) := by decide +kernel
theorem dL_law_305 : decode cL_law 305 = .ok (.invokevirtual 96, 3) := by decide +kernel
theorem dL_law_308 : decode cL_law 308 = .ok (.lconst 1, 1) := by decide +kernel
theorem dL_law_309 : decode cL_law 309 = .ok (.lcmp, 1) := by decide +kernel
theorem dL_law_310 : decode cL_law 310 = .ok (.ifCond .ne 33, 3) := by decide +kernel
theorem dL_law_313 : decode cL_law 313 = .ok (.iload 7, 2) := by decide +kernel
theorem dL_law_315 : decode cL_law 315 = .ok (.ifCond .ne 14, 3) := by decide +kernel
theorem dL_law_318 : decode cL_law 318 = .ok (.iload 4, 2) := by decide +kernel
theorem dL_law_320 : decode cL_law 320 = .ok (.iload 8, 2) := by decide +kernel
theorem dL_law_322 : decode cL_law 322 = .ok (.ishr, 1) := by decide +kernel
theorem dL_law_323 : decode cL_law 323 = .ok (.iconst 1, 1) := by decide +kernel
theorem dL_law_324 : decode cL_law 324 = .ok (.iand, 1) := by decide +kernel
theorem dL_law_325 : decode cL_law 325 = .ok (.iconst 1, 1) := by decide +kernel
theorem dL_law_326 : decode cL_law 326 = .ok (.if_icmp .eq 17, 3) := by decide +kernel
theorem dL_law_329 : decode cL_law 329 = .ok (.aload_n 1, 1) := by decide +kernel
theorem dL_law_330 : decode cL_law 330 = .ok (.iload 5, 2) := by decide +kernel
theorem dL_law_332 : decode cL_law 332 = .ok (.iload 8, 2) := by decide +kernel
theorem dL_law_334 : decode cL_law 334 = .ok (.iconst 1, 1) := by decide +kernel
theorem dL_law_335 : decode cL_law 335 = .ok (.invokevirtual 96, 3) := by decide +kernel
theorem dL_law_338 : decode cL_law 338 = .ok (.lconst 1, 1) := by decide +kernel
theorem dL_law_339 : decode cL_law 339 = .ok (.lcmp, 1) := by decide +kernel
theorem dL_law_340 : decode cL_law 340 = .ok (.ifCond .ge 5, 3) := by decide +kernel
theorem dL_law_343 : decode cL_law 343 = .ok (.iconst 0, 1) := by decide +kernel
theorem dL_law_344 : decode cL_law 344 = .ok (.ireturn, 1) := by decide +kernel
theorem dL_law_345 : decode cL_law 345 = .ok (.iload 6, 2) := by decide +kernel
theorem dL_law_347 : decode cL_law 347 = .ok (.iload 7, 2) := by decide +kernel
theorem dL_law_349 : decode cL_law 349 = .ok (.ifCond .eq 7, 3) := by decide +kernel
theorem dL_law_352 : decode cL_law 352 = .ok (.iconst 0, 1) := by decide +kernel
theorem dL_law_353 : decode cL_law 353 = .ok (.goto 4, 3) := by decide +kernel
theorem dL_law_356 : decode cL_law 356 = .ok (.iconst 1, 1) := by decide +kernel
theorem dL_law_357 : decode cL_law 357 = .ok (.iadd, 1) := by decide +kernel
theorem dL_law_358 : decode cL_law 358 = .ok (.istore 6, 2) := by decide +kernel
theorem dL_law_360 : decode cL_law 360 = .ok (.iconst 0, 1) := by decide +kernel
theorem dL_law_361 : decode cL_law 361 = .ok (.istore 7, 2) := by decide +kernel
theorem dL_law_363 : decode cL_law 363 = .ok (.iinc 8 1, 3) := by decide +kernel
theorem dL_law_366 : decode cL_law 366 = .ok (.goto (-117), 3) := by decide +kernel
theorem dL_law_369 : decode cL_law 369 = .ok (.iload 6, 2) := by decide +kernel
theorem dL_law_371 : decode cL_law 371 = .ok (.ifCond .ne 5, 3) := by decide +kernel
theorem dL_law_374 : decode cL_law 374 = .ok (.iconst 0, 1) := by decide +kernel
theorem dL_law_375 : decode cL_law 375 = .ok (.ireturn, 1) := by decide +kernel
theorem dL_law_376 : decode cL_law 376 = .ok (.iinc 5 1, 3) := by decide +kernel
theorem dL_law_379 : decode cL_law 379 = .ok (.goto (-145), 3) := by decide +kernel
theorem dL_law_382 : decode cL_law 382 = .ok (.iconst 0, 1) := by decide +kernel
theorem dL_law_383 : decode cL_law 383 = .ok (.istore 5, 2) := by decide +kernel
theorem dL_law_385 : decode cL_law 385 = .ok (.iload 5, 2) := by decide +kernel
theorem dL_law_387 : decode cL_law 387 = .ok (.bipush 6, 2) := by decide +kernel
theorem dL_law_389 : decode cL_law 389 = .ok (.if_icmp .ge 408, 3) := by decide +kernel
theorem dL_law_392 : decode cL_law 392 = .ok (.aload_n 0, 1) := by decide +kernel
theorem dL_law_393 : decode cL_law 393 = .ok (.bipush 26, 2) := by decide +kernel
theorem dL_law_395 : decode cL_law 395 = .ok (.iload 5, 2) := by decide +kernel
theorem dL_law_397 : decode cL_law 397 = .ok (.iadd, 1) := by decide +kernel
theorem dL_law_398 : decode cL_law 398 = .ok (.invokestatic 18, 3) := by decide +kernel
theorem dL_law_401 : decode cL_law 401 = .ok (.istore 6, 2) := by decide +kernel
theorem dL_law_403 : decode cL_law 403 = .ok (.iconst 1, 1) := by decide +kernel
theorem dL_law_404 : decode cL_law 404 = .ok (.iload 6, 2) := by decide +kernel
theorem dL_law_406 : decode cL_law 406 = .ok (.sipush 255, 3) := by decide +kernel
theorem dL_law_409 : decode cL_law 409 = .ok (.invokestatic 24, 3) := by decide +kernel
theorem dL_law_412 : decode cL_law 412 = .ok (.iadd, 1) := by decide +kernel
theorem dL_law_413 : decode cL_law 413 = .ok (.istore 7, 2) := by decide +kernel
theorem dL_law_415 : decode cL_law 415 = .ok (.iload 6, 2) := by decide +kernel
theorem dL_law_417 : decode cL_law 417 = .ok (.bipush 8, 2) := by decide +kernel
theorem dL_law_419 : decode cL_law 419 = .ok (.ishr, 1) := by decide +kernel
theorem dL_law_420 : decode cL_law 420 = .ok (.iconst 3, 1) := by decide +kernel
theorem dL_law_421 : decode cL_law 421 = .ok (.invokestatic 24, 3) := by decide +kernel
theorem dL_law_424 : decode cL_law 424 = .ok (.istore 8, 2) := by decide +kernel
theorem dL_law_426 : decode cL_law 426 = .ok (.iload 8, 2) := by decide +kernel
theorem dL_law_428 : decode cL_law 428 = .ok (.iconst 1, 1) := by decide +kernel
theorem dL_law_429 : decode cL_law 429 = .ok (.if_icmp .ne 20, 3) := by decide +kernel
theorem dL_law_432 : decode cL_law 432 = .ok (.iload 6, 2) := by decide +kernel
theorem dL_law_434 : decode cL_law 434 = .ok (.bipush 10, 2) := by decide +kernel
theorem dL_law_436 : decode cL_law 436 = .ok (.ishr, 1) := by decide +kernel
theorem dL_law_437 : decode cL_law 437 = .ok (.sipush 255, 3) := by decide +kernel
theorem dL_law_440 : decode cL_law 440 = .ok (.iand, 1) := by decide +kernel
theorem dL_law_441 : decode cL_law 441 = .ok (.iload 7, 2) := by decide +kernel
theorem dL_law_443 : decode cL_law 443 = .ok (.iconst (-1), 1) := by decide +kernel
theorem dL_law_444 : decode cL_law 444 = .ok (.ixor, 1) := by decide +kernel
theorem dL_law_445 : decode cL_law 445 = .ok (.iand, 1) := by decide +kernel
theorem dL_law_446 : decode cL_law 446 = .ok (.goto 14, 3) := by decide +kernel
theorem dL_law_449 : decode cL_law 449 = .ok (.iconst 1, 1) := by decide +kernel
theorem dL_law_450 : decode cL_law 450 = .ok (.iload 6, 2) := by decide +kernel
theorem dL_law_452 : decode cL_law 452 = .ok (.bipush 10, 2) := by decide +kernel
theorem dL_law_454 : decode cL_law 454 = .ok (.ishr, 1) := by decide +kernel
theorem dL_law_455 : decode cL_law 455 = .ok (.iconst 3, 1) := by decide +kernel
theorem dL_law_456 : decode cL_law 456 = .ok (.invokestatic 24, 3) := by decide +kernel
theorem dL_law_459 : decode cL_law 459 = .ok (.iadd, 1) := by decide +kernel
theorem dL_law_460 : decode cL_law 460 = .ok (.istore 9, 2) := by decide +kernel
theorem dL_law_462 : decode cL_law 462 = .ok (.iload 8, 2) := by decide +kernel
theorem dL_law_464 : decode cL_law 464 = .ok (.iconst 1, 1) := by decide +kernel
theorem dL_law_465 : decode cL_law 465 = .ok (.if_icmp .ne 11, 3) := by decide +kernel
theorem dL_law_468 : decode cL_law 468 = .ok (.iload 9, 2) := by decide +kernel
theorem dL_law_470 : decode cL_law 470 = .ok (.ifCond .ne 6, 3) := by decide +kernel
theorem dL_law_473 : decode cL_law 473 = .ok (.goto 318, 3) := by decide +kernel
theorem dL_law_476 : decode cL_law 476 = .ok (.aload_n 1, 1) := by decide +kernel
theorem dL_law_477 : decode cL_law 477 = .ok (.iload 8, 2) := by decide +kernel
theorem dL_law_479 : decode cL_law 479 = .ok (.iload 7, 2) := by decide +kernel
theorem dL_law_481 : decode cL_law 481 = .ok (.iload 9, 2) := by decide +kernel
theorem dL_law_483 : decode cL_law 483 = .ok (.invokevirtual 72, 3) := by decide +kernel
theorem dL_law_486 : decode cL_law 486 = .ok (.istore 10, 2) := by decide +kernel
theorem dL_law_488 : decode cL_law 488 = .ok (.aload_n 1, 1) := by decide +kernel
theorem dL_law_489 : decode cL_law 489 = .ok (.iconst 0, 1) := by decide +kernel
theorem dL_law_490 : decode cL_law 490 = .ok (.invokevirtual 69, 3) := by decide +kernel
theorem dL_law_493 : decode cL_law 493 = .ok (.istore 11, 2) := by decide +kernel
theorem dL_law_495 : decode cL_law 495 = .ok (.iconst 0, 1) := by decide +kernel
theorem dL_law_496 : decode cL_law 496 = .ok (.istore 12, 2) := by decide +kernel
theorem dL_law_498 : decode cL_law 498 = .ok (.iconst 0, 1) := by decide +kernel
theorem dL_law_499 : decode cL_law 499 = .ok (.istore 13, 2) := by decide +kernel
theorem dL_law_501 : decode cL_law 501 = .ok (.iload 13, 2) := by decide +kernel
theorem dL_law_503 : decode cL_law 503 = .ok (.bipush 8, 2) := by decide +kernel
theorem dL_law_505 : decode cL_law 505 = .ok (.if_icmp .ge 70, 3) := by decide +kernel
theorem dL_law_508 : decode cL_law 508 = .ok (.iload 12, 2) := by decide +kernel
theorem dL_law_510 : decode cL_law 510 = .ok (.aload_n 1, 1) := by decide +kernel
theorem dL_law_511 : decode cL_law 511 = .ok (.iload 13, 2) := by decide +kernel
theorem dL_law_513 : decode cL_law 513 = .ok (.iconst 0, 1) := by decide +kernel
theorem dL_law_514 : decode cL_law 514 = .ok (.invokevirtual 75, 3) := by decide +kernel
theorem dL_law_517 : decode cL_law 517 = .ok (.iload 8, 2) := by decide +kernel
theorem dL_law_519 : decode cL_law 519 = .ok (.iconst 1, 1) := by decide +kernel
theorem dL_law_520 : decode cL_law 520 = .ok (.if_icmp .ne 21, 3) := by decide +kernel
theorem dL_law_523 : decode cL_law 523 = .ok (.iload 7, 2) := by decide +kernel
theorem dL_law_525 : decode cL_law 525 = .ok (.iload 13, 2) := by decide +kernel
theorem dL_law_527 : decode cL_law 527 = .ok (.ishr, 1) := by decide +kernel
theorem dL_law_528 : decode cL_law 528 = .ok (.iconst 1, 1) := by decide +kernel
theorem dL_law_529 : decode cL_law 529 = .ok (.iand, 1) := by decide +kernel
theorem dL_law_530 : decode cL_law 530 = .ok (.iload 9, 2) := by decide +kernel
theorem dL_law_532 : decode cL_law 532 = .ok (.iload 13, 2) := by decide +kernel
theorem dL_law_534 : decode cL_law 534 = .ok (.ishr, 1) := by decide +kernel
theorem dL_law_535 : decode cL_law 535 = .ok (.iconst 1, 1) := by decide +kernel
theorem dL_law_536 : decode cL_law 536 = .ok (.iand, 1) := by decide +kernel
theorem dL_law_537 : decode cL_law 537 = .ok (.isub, 1) := by decide +kernel
theorem dL_law_538 : decode cL_law 538 = .ok (.goto 27, 3) := by decide +kernel
theorem dL_law_541 : decode cL_law 541 = .ok (.iload 7, 2) := by decide +kernel
theorem dL_law_543 : decode cL_law 543 = .ok (.iload 13, 2) := by decide +kernel
theorem dL_law_545 : decode cL_law 545 = .ok (.ishr, 1) := by decide +kernel
theorem dL_law_546 : decode cL_law 546 = .ok (.iconst 1, 1) := by decide +kernel
theorem dL_law_547 : decode cL_law 547 = .ok (.iand, 1) := by decide +kernel
theorem dL_law_548 : decode cL_law 548 = .ok (.iload 8, 2) := by decide +kernel
theorem dL_law_550 : decode cL_law 550 = .ok (.ifCond .ne 7, 3) := by decide +kernel
theorem dL_law_553 : decode cL_law 553 = .ok (.iconst 1, 1) := by decide +kernel
theorem dL_law_554 : decode cL_law 554 = .ok (.goto 10, 3) := by decide +kernel
theorem dL_law_557 : decode cL_law 557 = .ok (.iload 13, 2) := by decide +kernel
theorem dL_law_559 : decode cL_law 559 = .ok (.iload 9, 2) := by decide +kernel
theorem dL_law_561 : decode cL_law 561 = .ok (.irem, 1) := by decide +kernel
theorem dL_law_562 : decode cL_law 562 = .ok (.iconst 1, 1) := by decide +kernel
theorem dL_law_563 : decode cL_law 563 = .ok (.iadd, 1) := by decide +kernel
theorem dL_law_564 : decode cL_law 564 = .ok (.imul, 1) := by decide +kernel
theorem dL_law_565 : decode cL_law 565 = .ok (.imul, 1) := by decide +kernel
theorem dL_law_566 : decode cL_law 566 = .ok (.iadd, 1) := by decide +kernel
theorem dL_law_567 : decode cL_law 567 = .ok (.istore 12, 2) := by decide +kernel
theorem dL_law_569 : decode cL_law 569 = .ok (.iinc 13 1, 3) := by decide +kernel
theorem dL_law_572 : decode cL_law 572 = .ok (.goto (-71), 3) := by decide +kernel
theorem dL_law_575 : decode cL_law 575 = .ok (.aload_n 1, 1) := by decide +kernel
theorem dL_law_576 : decode cL_law 576 = .ok (.iload 8, 2) := by decide +kernel
theorem dL_law_578 : decode cL_law 578 = .ok (.iload 7, 2) := by decide +kernel
theorem dL_law_580 : decode cL_law 580 = .ok (.iload 9, 2) := by decide +kernel
theorem dL_law_582 : decode cL_law 582 = .ok (.invokevirtual 37, 3) := by decide +kernel
theorem dL_law_585 : decode cL_law 585 = .ok (.istore 13, 2) := by decide +kernel
theorem dL_law_587 : decode cL_law 587 = .ok (.iload 13, 2) := by decide +kernel
theorem dL_law_589 : decode cL_law 589 = .ok (.iload 10, 2) := by decide +kernel
theorem dL_law_591 : decode cL_law 591 = .ok (.iconst 2, 1) := by decide +kernel
theorem dL_law_592 : decode cL_law 592 = .ok (.if_icmp .ne 8, 3) := by decide +kernel
theorem dL_law_595 : decode cL_law 595 = .ok (.ldc 78, 2) := by decide +kernel
theorem dL_law_597 : decode cL_law 597 = .ok (.goto 5, 3) := by decide +kernel
theorem dL_law_600 : decode cL_law 600 = .ok (.iload 12, 2) := by decide +kernel
theorem dL_law_602 : decode cL_law 602 = .ok (.if_icmp .ne 78, 3) := by decide +kernel
theorem dL_law_605 : decode cL_law 605 = .ok (.aload_n 1, 1) := by decide +kernel
theorem dL_law_606 : decode cL_law 606 = .ok (.iconst 0, 1) := by decide +kernel
theorem dL_law_607 : decode cL_law 607 = .ok (.invokevirtual 69, 3) := by decide +kernel
theorem dL_law_610 : decode cL_law 610 = .ok (.iload 11, 2) := by decide +kernel
theorem dL_law_612 : decode cL_law 612 = .ok (.iload 10, 2) := by decide +kernel
theorem dL_law_614 : decode cL_law 614 = .ok (.iconst 1, 1) := by decide +kernel
theorem dL_law_615 : decode cL_law 615 = .ok (.if_icmp .ne 7, 3) := by decide +kernel
theorem dL_law_618 : decode cL_law 618 = .ok (.iconst 1, 1) := by decide +kernel
theorem dL_law_619 : decode cL_law 619 = .ok (.goto 4, 3) := by decide +kernel
theorem dL_law_622 : decode cL_law 622 = .ok (.iconst 0, 1) := by decide +kernel
theorem dL_law_623 : decode cL_law 623 = .ok (.iadd, 1) := by decide +kernel
theorem dL_law_624 : decode cL_law 624 = .ok (.if_icmp .ne 56, 3) := by decide +kernel
theorem dL_law_627 : decode cL_law 627 = .ok (.iload 10, 2) := by decide +kernel
theorem dL_law_629 : decode cL_law 629 = .ok (.iconst 2, 1) := by decide +kernel
theorem dL_law_630 : decode cL_law 630 = .ok (.if_icmp .eq 31, 3) := by decide +kernel
theorem dL_law_633 : decode cL_law 633 = .ok (.aload_n 1, 1) := by decide +kernel
theorem dL_law_634 : decode cL_law 634 = .ok (.iload 8, 2) := by decide +kernel
theorem dL_law_636 : decode cL_law 636 = .ok (.iload 7, 2) := by decide +kernel
theorem dL_law_638 : decode cL_law 638 = .ok (.iload 9, 2) := by decide +kernel
theorem dL_law_640 : decode cL_law 640 = .ok (.invokevirtual 72, 3) := by decide +kernel
theorem dL_law_643 : decode cL_law 643 = .ok (.ifCond .ne 37, 3) := by decide +kernel
theorem dL_law_646 : decode cL_law 646 = .ok (.aload_n 1, 1) := by decide +kernel
theorem dL_law_647 : decode cL_law 647 = .ok (.iload 8, 2) := by decide +kernel
theorem dL_law_649 : decode cL_law 649 = .ok (.iload 7, 2) := by decide +kernel
theorem dL_law_651 : decode cL_law 651 = .ok (.iload 9, 2) := by decide +kernel
theorem dL_law_653 : decode cL_law 653 = .ok (.invokevirtual 37, 3) := by decide +kernel
theorem dL_law_656 : decode cL_law 656 = .ok (.iload 12, 2) := by decide +kernel
theorem dL_law_658 : decode cL_law 658 = .ok (.if_icmp .ne 22, 3) := by decide +kernel
theorem dL_law_661 : decode cL_law 661 = .ok (.iload 10, 2) := by decide +kernel
theorem dL_law_663 : decode cL_law 663 = .ok (.iconst 1, 1) := by decide +kernel
theorem dL_law_664 : decode cL_law 664 = .ok (.if_icmp .ne 18, 3) := by decide +kernel
theorem dL_law_667 : decode cL_law 667 = .ok (.aload_n 1, 1) := by decide +kernel
theorem dL_law_668 : decode cL_law 668 = .ok (.iload 11, 2) := by decide +kernel
theorem dL_law_670 : decode cL_law 670 = .ok (.invokevirtual 100, 3) := by decide +kernel
theorem dL_law_673 : decode cL_law 673 = .ok (.iload 12, 2) := by decide +kernel
theorem dL_law_675 : decode cL_law 675 = .ok (.i2l, 1) := by decide +kernel
theorem dL_law_676 : decode cL_law 676 = .ok (.lcmp, 1) := by decide +kernel
theorem dL_law_677 : decode cL_law 677 = .ok (.ifCond .eq 5, 3) := by decide +kernel
theorem dL_law_680 : decode cL_law 680 = .ok (.iconst 0, 1) := by decide +kernel
theorem dL_law_681 : decode cL_law 681 = .ok (.ireturn, 1) := by decide +kernel
theorem dL_law_682 : decode cL_law 682 = .ok (.iload 7, 2) := by decide +kernel
theorem dL_law_684 : decode cL_law 684 = .ok (.sipush 255, 3) := by decide +kernel
theorem dL_law_687 : decode cL_law 687 = .ok (.iand, 1) := by decide +kernel
theorem dL_law_688 : decode cL_law 688 = .ok (.istore 14, 2) := by decide +kernel
theorem dL_law_690 : decode cL_law 690 = .ok (.iconst 0, 1) := by decide +kernel
theorem dL_law_691 : decode cL_law 691 = .ok (.istore 15, 2) := by decide +kernel
theorem dL_law_693 : decode cL_law 693 = .ok (.iload 15, 2) := by decide +kernel
theorem dL_law_695 : decode cL_law 695 = .ok (.bipush 8, 2) := by decide +kernel
theorem dL_law_697 : decode cL_law 697 = .ok (.if_icmp .ge 25, 3) := by decide +kernel
theorem dL_law_700 : decode cL_law 700 = .ok (.aload_n 1, 1) := by decide +kernel
theorem dL_law_701 : decode cL_law 701 = .ok (.iconst 0, 1) := by decide +kernel
theorem dL_law_702 : decode cL_law 702 = .ok (.iconst 1, 1) := by decide +kernel
theorem dL_law_703 : decode cL_law 703 = .ok (.iload 15, 2) := by decide +kernel
theorem dL_law_705 : decode cL_law 705 = .ok (.ishl, 1) := by decide +kernel
theorem dL_law_706 : decode cL_law 706 = .ok (.iconst 0, 1) := by decide +kernel
theorem dL_law_707 : decode cL_law 707 = .ok (.invokevirtual 72, 3) := by decide +kernel
theorem dL_law_710 : decode cL_law 710 = .ok (.iconst 2, 1) := by decide +kernel
theorem dL_law_711 : decode cL_law 711 = .ok (.if_icmp .eq 5, 3) := by decide +kernel
theorem dL_law_714 : decode cL_law 714 = .ok (.iconst 0, 1) := by decide +kernel
theorem dL_law_715 : decode cL_law 715 = .ok (.ireturn, 1) := by decide +kernel
theorem dL_law_716 : decode cL_law 716 = .ok (.iinc 15 1, 3) := by decide +kernel
theorem dL_law_719 : decode cL_law 719 = .ok (.goto (-26), 3) := by decide +kernel
theorem dL_law_722 : decode cL_law 722 = .ok (.iload 10, 2) := by decide +kernel
theorem dL_law_724 : decode cL_law 724 = .ok (.iconst 1, 1) := by decide +kernel
theorem dL_law_725 : decode cL_law 725 = .ok (.if_icmp .ne 36, 3) := by decide +kernel
theorem dL_law_728 : decode cL_law 728 = .ok (.iload 8, 2) := by decide +kernel
theorem dL_law_730 : decode cL_law 730 = .ok (.ifCond .ne 31, 3) := by decide +kernel
theorem dL_law_733 : decode cL_law 733 = .ok (.aload_n 1, 1) := by decide +kernel
theorem dL_law_734 : decode cL_law 734 = .ok (.iconst 2, 1) := by decide +kernel
theorem dL_law_735 : decode cL_law 735 = .ok (.invokevirtual 69, 3) := by decide +kernel
theorem dL_law_738 : decode cL_law 738 = .ok (.iconst 1, 1) := by decide +kernel
theorem dL_law_739 : decode cL_law 739 = .ok (.if_icmp .ne 22, 3) := by decide +kernel
theorem dL_law_742 : decode cL_law 742 = .ok (.iload 14, 2) := by decide +kernel
theorem dL_law_744 : decode cL_law 744 = .ok (.invokestatic 88, 3) := by decide +kernel
theorem dL_law_747 : decode cL_law 747 = .ok (.iconst 2, 1) := by decide +kernel
theorem dL_law_748 : decode cL_law 748 = .ok (.if_icmp .lt 41, 3) := by decide +kernel
theorem dL_law_751 : decode cL_law 751 = .ok (.iload 14, 2) := by decide +kernel
theorem dL_law_753 : decode cL_law 753 = .ok (.invokestatic 88, 3) := by decide +kernel
theorem dL_law_756 : decode cL_law 756 = .ok (.bipush 6, 2) := by decide +kernel
theorem dL_law_758 : decode cL_law 758 = .ok (.if_icmp .gt 31, 3) := by decide +kernel
theorem dL_law_761 : decode cL_law 761 = .ok (.iload 10, 2) := by decide +kernel
theorem dL_law_763 : decode cL_law 763 = .ok (.iconst 1, 1) := by decide +kernel
theorem dL_law_764 : decode cL_law 764 = .ok (.if_icmp .ne 27, 3) := by decide +kernel
theorem dL_law_767 : decode cL_law 767 = .ok (.aload_n 1, 1) := by decide +kernel
theorem dL_law_768 : decode cL_law 768 = .ok (.iconst 2, 1) := by decide +kernel
theorem dL_law_769 : decode cL_law 769 = .ok (.invokevirtual 69, 3) := by decide +kernel
theorem dL_law_772 : decode cL_law 772 = .ok (.iconst 3, 1) := by decide +kernel
theorem dL_law_773 : decode cL_law 773 = .ok (.if_icmp .ne 18, 3) := by decide +kernel
theorem dL_law_776 : decode cL_law 776 = .ok (.aload_n 1, 1) := by decide +kernel
theorem dL_law_777 : decode cL_law 777 = .ok (.iconst 0, 1) := by decide +kernel
theorem dL_law_778 : decode cL_law 778 = .ok (.invokevirtual 69, 3) := by decide +kernel
theorem dL_law_781 : decode cL_law 781 = .ok (.aload_n 1, 1) := by decide +kernel
theorem dL_law_782 : decode cL_law 782 = .ok (.iconst 3, 1) := by decide +kernel
theorem dL_law_783 : decode cL_law 783 = .ok (.invokevirtual 69, 3) := by decide +kernel
theorem dL_law_786 : decode cL_law 786 = .ok (.if_icmp .le 5, 3) := by decide +kernel
theorem dL_law_789 : decode cL_law 789 = .ok (.iconst 0, 1) := by decide +kernel
theorem dL_law_790 : decode cL_law 790 = .ok (.ireturn, 1) := by decide +kernel
theorem dL_law_791 : decode cL_law 791 = .ok (.iinc 5 1, 3) := by decide +kernel
theorem dL_law_794 : decode cL_law 794 = .ok (.goto (-409), 3) := by decide +kernel
theorem dL_law_797 : decode cL_law 797 = .ok (.aload_n 1, 1) := by decide +kernel
theorem dL_law_798 : decode cL_law 798 = .ok (.invokevirtual 79, 3) := by decide +kernel
theorem dL_law_801 : decode cL_law 801 = .ok (.iload_n 2, 1) := by decide +kernel
theorem dL_law_802 : decode cL_law 802 = .ok (.if_icmp .ne 34, 3) := by decide +kernel
theorem dL_law_805 : decode cL_law 805 = .ok (.aload_n 1, 1) := by decide +kernel
theorem dL_law_806 : decode cL_law 806 = .ok (.iconst 0, 1) := by decide +kernel
theorem dL_law_807 : decode cL_law 807 = .ok (.invokevirtual 69, 3) := by decide +kernel
theorem dL_law_810 : decode cL_law 810 = .ok (.iload_n 2, 1) := by decide +kernel
theorem dL_law_811 : decode cL_law 811 = .ok (.if_icmp .ne 25, 3) := by decide +kernel
theorem dL_law_814 : decode cL_law 814 = .ok (.aload_n 1, 1) := by decide +kernel
theorem dL_law_815 : decode cL_law 815 = .ok (.iconst 1, 1) := by decide +kernel
theorem dL_law_816 : decode cL_law 816 = .ok (.invokevirtual 69, 3) := by decide +kernel
theorem dL_law_819 : decode cL_law 819 = .ok (.iload_n 3, 1) := by decide +kernel
theorem dL_law_820 : decode cL_law 820 = .ok (.if_icmp .ne 16, 3) := by decide +kernel
theorem dL_law_823 : decode cL_law 823 = .ok (.aload_n 1, 1) := by decide +kernel
theorem dL_law_824 : decode cL_law 824 = .ok (.invokevirtual 85, 3) := by decide +kernel
theorem dL_law_827 : decode cL_law 827 = .ok (.iload 4, 2) := by decide +kernel
theorem dL_law_829 : decode cL_law 829 = .ok (.if_icmp .ne 7, 3) := by decide +kernel
theorem dL_law_832 : decode cL_law 832 = .ok (.iconst 1, 1) := by decide +kernel
theorem dL_law_833 : decode cL_law 833 = .ok (.goto 4, 3) := by decide +kernel
theorem dL_law_836 : decode cL_law 836 = .ok (.iconst 0, 1) := by decide +kernel
theorem dL_law_837 : decode cL_law 837 = .ok (.ireturn, 1) := by decide +kernel
