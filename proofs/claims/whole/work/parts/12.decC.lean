theorem d_P_isUpTo_0 : decode b_P_isUpTo 0 = .ok (.iload_n 0, 1) := by decide +kernel
theorem d_P_isUpTo_1 : decode b_P_isUpTo 1 = .ok (.ifCond .lt 12, 3) := by decide +kernel
theorem d_P_isUpTo_4 : decode b_P_isUpTo 4 = .ok (.iload_n 0, 1) := by decide +kernel
theorem d_P_isUpTo_5 : decode b_P_isUpTo 5 = .ok (.iload_n 1, 1) := by decide +kernel
theorem d_P_isUpTo_6 : decode b_P_isUpTo 6 = .ok (.if_icmp .gt 7, 3) := by decide +kernel
theorem d_P_isUpTo_9 : decode b_P_isUpTo 9 = .ok (.iconst 1, 1) := by decide +kernel
theorem d_P_isUpTo_10 : decode b_P_isUpTo 10 = .ok (.goto 4, 3) := by decide +kernel
theorem d_P_isUpTo_13 : decode b_P_isUpTo 13 = .ok (.iconst 0, 1) := by decide +kernel
theorem d_P_isUpTo_14 : decode b_P_isUpTo 14 = .ok (.ireturn, 1) := by decide +kernel
theorem d_S_add_0 : decode b_S_add 0 = .ok (.aload_n 0, 1) := by decide +kernel
theorem d_S_add_1 : decode b_S_add 1 = .ok (.getfield 26, 3) := by decide +kernel
theorem d_S_add_4 : decode b_S_add 4 = .ok (.bipush 24, 2) := by decide +kernel
theorem d_S_add_6 : decode b_S_add 6 = .ok (.if_icmp .lt 5, 3) := by decide +kernel
theorem d_S_add_9 : decode b_S_add 9 = .ok (.iconst (-1), 1) := by decide +kernel
theorem d_S_add_10 : decode b_S_add 10 = .ok (.ireturn, 1) := by decide +kernel
theorem d_S_add_11 : decode b_S_add 11 = .ok (.aload_n 0, 1) := by decide +kernel
theorem d_S_add_12 : decode b_S_add 12 = .ok (.getfield 26, 3) := by decide +kernel
theorem d_S_add_15 : decode b_S_add 15 = .ok (.istore 5, 2) := by decide +kernel
theorem d_S_add_17 : decode b_S_add 17 = .ok (.aload_n 0, 1) := by decide +kernel
theorem d_S_add_18 : decode b_S_add 18 = .ok (.getfield 9, 3) := by decide +kernel
theorem d_S_add_21 : decode b_S_add 21 = .ok (.iload 5, 2) := by decide +kernel
theorem d_S_add_23 : decode b_S_add 23 = .ok (.lload_n 1, 1) := by decide +kernel
theorem d_S_add_24 : decode b_S_add 24 = .ok (.lastore, 1) := by decide +kernel
theorem d_S_add_25 : decode b_S_add 25 = .ok (.aload_n 0, 1) := by decide +kernel
theorem d_S_add_26 : decode b_S_add 26 = .ok (.getfield 15, 3) := by decide +kernel
theorem d_S_add_29 : decode b_S_add 29 = .ok (.iload 5, 2) := by decide +kernel
theorem d_S_add_31 : decode b_S_add 31 = .ok (.iload_n 3, 1) := by decide +kernel
theorem d_S_add_32 : decode b_S_add 32 = .ok (.iastore, 1) := by decide +kernel
theorem d_S_add_33 : decode b_S_add 33 = .ok (.aload_n 0, 1) := by decide +kernel
theorem d_S_add_34 : decode b_S_add 34 = .ok (.getfield 19, 3) := by decide +kernel
theorem d_S_add_37 : decode b_S_add 37 = .ok (.iload 5, 2) := by decide +kernel
theorem d_S_add_39 : decode b_S_add 39 = .ok (.iload 4, 2) := by decide +kernel
theorem d_S_add_41 : decode b_S_add 41 = .ok (.iastore, 1) := by decide +kernel
theorem d_S_add_42 : decode b_S_add 42 = .ok (.aload_n 0, 1) := by decide +kernel
theorem d_S_add_43 : decode b_S_add 43 = .ok (.dup, 1) := by decide +kernel
theorem d_S_add_44 : decode b_S_add 44 = .ok (.getfield 26, 3) := by decide +kernel
theorem d_S_add_47 : decode b_S_add 47 = .ok (.iconst 1, 1) := by decide +kernel
theorem d_S_add_48 : decode b_S_add 48 = .ok (.iadd, 1) := by decide +kernel
theorem d_S_add_49 : decode b_S_add 49 = .ok (.putfield 26, 3) := by decide +kernel
theorem d_S_add_52 : decode b_S_add 52 = .ok (.iload 5, 2) := by decide +kernel
theorem d_S_add_54 : decode b_S_add 54 = .ok (.ireturn, 1) := by decide +kernel
theorem d_P_source_0 : decode b_P_source 0 = .ok (.iload_n 3, 1) := by decide +kernel
theorem d_P_source_1 : decode b_P_source 1 = .ok (.bipush 7, 2) := by decide +kernel
theorem d_P_source_3 : decode b_P_source 3 = .ok (.invokestatic 47, 3) := by decide +kernel
theorem d_P_source_6 : decode b_P_source 6 = .ok (.ifCond .ne 5, 3) := by decide +kernel
theorem d_P_source_9 : decode b_P_source 9 = .ok (.iconst (-1), 1) := by decide +kernel
theorem d_P_source_10 : decode b_P_source 10 = .ok (.ireturn, 1) := by decide +kernel
theorem d_P_source_11 : decode b_P_source 11 = .ok (.aload_n 0, 1) := by decide +kernel
theorem d_P_source_12 : decode b_P_source 12 = .ok (.getfield 10, 3) := by decide +kernel
theorem d_P_source_15 : decode b_P_source 15 = .ok (.lload_n 1, 1) := by decide +kernel
theorem d_P_source_16 : decode b_P_source 16 = .ok (.iload_n 3, 1) := by decide +kernel
theorem d_P_source_17 : decode b_P_source 17 = .ok (.iload 4, 2) := by decide +kernel
theorem d_P_source_19 : decode b_P_source 19 = .ok (.ldc 51, 2) := by decide +kernel
theorem d_P_source_21 : decode b_P_source 21 = .ok (.iand, 1) := by decide +kernel
theorem d_P_source_22 : decode b_P_source 22 = .ok (.invokevirtual 52, 3) := by decide +kernel
theorem d_P_source_25 : decode b_P_source 25 = .ok (.ireturn, 1) := by decide +kernel
theorem d_S_has_0 : decode b_S_has 0 = .ok (.iload_n 1, 1) := by decide +kernel
theorem d_S_has_1 : decode b_S_has 1 = .ok (.ifCond .lt 15, 3) := by decide +kernel
theorem d_S_has_4 : decode b_S_has 4 = .ok (.iload_n 1, 1) := by decide +kernel
theorem d_S_has_5 : decode b_S_has 5 = .ok (.aload_n 0, 1) := by decide +kernel
theorem d_S_has_6 : decode b_S_has 6 = .ok (.getfield 26, 3) := by decide +kernel
theorem d_S_has_9 : decode b_S_has 9 = .ok (.if_icmp .ge 7, 3) := by decide +kernel
theorem d_S_has_12 : decode b_S_has 12 = .ok (.iconst 1, 1) := by decide +kernel
theorem d_S_has_13 : decode b_S_has 13 = .ok (.goto 4, 3) := by decide +kernel
theorem d_S_has_16 : decode b_S_has 16 = .ok (.iconst 0, 1) := by decide +kernel
theorem d_S_has_17 : decode b_S_has 17 = .ok (.ireturn, 1) := by decide +kernel
theorem d_P_fetched_0 : decode b_P_fetched 0 = .ok (.aload_n 0, 1) := by decide +kernel
theorem d_P_fetched_1 : decode b_P_fetched 1 = .ok (.getfield 10, 3) := by decide +kernel
theorem d_P_fetched_4 : decode b_P_fetched 4 = .ok (.iload_n 1, 1) := by decide +kernel
theorem d_P_fetched_5 : decode b_P_fetched 5 = .ok (.invokevirtual 56, 3) := by decide +kernel
theorem d_P_fetched_8 : decode b_P_fetched 8 = .ok (.ifCond .ne 5, 3) := by decide +kernel
theorem d_P_fetched_11 : decode b_P_fetched 11 = .ok (.iconst 0, 1) := by decide +kernel
theorem d_P_fetched_12 : decode b_P_fetched 12 = .ok (.ireturn, 1) := by decide +kernel
theorem d_P_fetched_13 : decode b_P_fetched 13 = .ok (.aload_n 0, 1) := by decide +kernel
theorem d_P_fetched_14 : decode b_P_fetched 14 = .ok (.getfield 10, 3) := by decide +kernel
theorem d_P_fetched_17 : decode b_P_fetched 17 = .ok (.getfield 60, 3) := by decide +kernel
theorem d_P_fetched_20 : decode b_P_fetched 20 = .ok (.iload_n 1, 1) := by decide +kernel
theorem d_P_fetched_21 : decode b_P_fetched 21 = .ok (.iload_n 2, 1) := by decide +kernel
theorem d_P_fetched_22 : decode b_P_fetched 22 = .ok (.ifCond .ne 7, 3) := by decide +kernel
theorem d_P_fetched_25 : decode b_P_fetched 25 = .ok (.iconst 1, 1) := by decide +kernel
theorem d_P_fetched_26 : decode b_P_fetched 26 = .ok (.goto 4, 3) := by decide +kernel
theorem d_P_fetched_29 : decode b_P_fetched 29 = .ok (.iconst 0, 1) := by decide +kernel
theorem d_P_fetched_30 : decode b_P_fetched 30 = .ok (.bastore, 1) := by decide +kernel
theorem d_P_fetched_31 : decode b_P_fetched 31 = .ok (.iconst 1, 1) := by decide +kernel
theorem d_P_fetched_32 : decode b_P_fetched 32 = .ok (.ireturn, 1) := by decide +kernel
theorem d_W_valueAt_0 : decode b_W_valueAt 0 = .ok (.aload_n 0, 1) := by decide +kernel
theorem d_W_valueAt_1 : decode b_W_valueAt 1 = .ok (.getfield 15, 3) := by decide +kernel
theorem d_W_valueAt_4 : decode b_W_valueAt 4 = .ok (.iload_n 1, 1) := by decide +kernel
theorem d_W_valueAt_5 : decode b_W_valueAt 5 = .ok (.bipush 6, 2) := by decide +kernel
theorem d_W_valueAt_7 : decode b_W_valueAt 7 = .ok (.imul, 1) := by decide +kernel
theorem d_W_valueAt_8 : decode b_W_valueAt 8 = .ok (.iload_n 2, 1) := by decide +kernel
theorem d_W_valueAt_9 : decode b_W_valueAt 9 = .ok (.iadd, 1) := by decide +kernel
theorem d_W_valueAt_10 : decode b_W_valueAt 10 = .ok (.laload, 1) := by decide +kernel
theorem d_W_valueAt_11 : decode b_W_valueAt 11 = .ok (.lreturn, 1) := by decide +kernel
theorem d_A_metByAt_0 : decode b_A_metByAt 0 = .ok (.aload_n 0, 1) := by decide +kernel
theorem d_A_metByAt_1 : decode b_A_metByAt 1 = .ok (.getfield 38, 3) := by decide +kernel
theorem d_A_metByAt_4 : decode b_A_metByAt 4 = .ok (.iload_n 1, 1) := by decide +kernel
theorem d_A_metByAt_5 : decode b_A_metByAt 5 = .ok (.bipush 6, 2) := by decide +kernel
theorem d_A_metByAt_7 : decode b_A_metByAt 7 = .ok (.imul, 1) := by decide +kernel
theorem d_A_metByAt_8 : decode b_A_metByAt 8 = .ok (.iload_n 2, 1) := by decide +kernel
theorem d_A_metByAt_9 : decode b_A_metByAt 9 = .ok (.iadd, 1) := by decide +kernel
theorem d_A_metByAt_10 : decode b_A_metByAt 10 = .ok (.iaload, 1) := by decide +kernel
theorem d_A_metByAt_11 : decode b_A_metByAt 11 = .ok (.ireturn, 1) := by decide +kernel
theorem d_A_meetMissing_0 : decode b_A_meetMissing 0 = .ok (.iconst 0, 1) := by decide +kernel
theorem d_A_meetMissing_1 : decode b_A_meetMissing 1 = .ok (.istore_n 2, 1) := by decide +kernel
theorem d_A_meetMissing_2 : decode b_A_meetMissing 2 = .ok (.iload_n 2, 1) := by decide +kernel
theorem d_A_meetMissing_3 : decode b_A_meetMissing 3 = .ok (.aload_n 0, 1) := by decide +kernel
theorem d_A_meetMissing_4 : decode b_A_meetMissing 4 = .ok (.getfield 47, 3) := by decide +kernel
theorem d_A_meetMissing_7 : decode b_A_meetMissing 7 = .ok (.if_icmp .ge 83, 3) := by decide +kernel
theorem d_A_meetMissing_10 : decode b_A_meetMissing 10 = .ok (.iconst 0, 1) := by decide +kernel
theorem d_A_meetMissing_11 : decode b_A_meetMissing 11 = .ok (.istore_n 3, 1) := by decide +kernel
theorem d_A_meetMissing_12 : decode b_A_meetMissing 12 = .ok (.iload_n 3, 1) := by decide +kernel
theorem d_A_meetMissing_13 : decode b_A_meetMissing 13 = .ok (.aload_n 0, 1) := by decide +kernel
theorem d_A_meetMissing_14 : decode b_A_meetMissing 14 = .ok (.getfield 35, 3) := by decide +kernel
theorem d_A_meetMissing_17 : decode b_A_meetMissing 17 = .ok (.getfield 55, 3) := by decide +kernel
theorem d_A_meetMissing_20 : decode b_A_meetMissing 20 = .ok (.iload_n 2, 1) := by decide +kernel
theorem d_A_meetMissing_21 : decode b_A_meetMissing 21 = .ok (.iaload, 1) := by decide +kernel
theorem d_A_meetMissing_22 : decode b_A_meetMissing 22 = .ok (.if_icmp .ge 62, 3) := by decide +kernel
theorem d_A_meetMissing_25 : decode b_A_meetMissing 25 = .ok (.aload_n 0, 1) := by decide +kernel
theorem d_A_meetMissing_26 : decode b_A_meetMissing 26 = .ok (.getfield 35, 3) := by decide +kernel
theorem d_A_meetMissing_29 : decode b_A_meetMissing 29 = .ok (.iload_n 2, 1) := by decide +kernel
theorem d_A_meetMissing_30 : decode b_A_meetMissing 30 = .ok (.iload_n 3, 1) := by decide +kernel
theorem d_A_meetMissing_31 : decode b_A_meetMissing 31 = .ok (.invokevirtual 58, 3) := by decide +kernel
theorem d_A_meetMissing_34 : decode b_A_meetMissing 34 = .ok (.aload_n 0, 1) := by decide +kernel
theorem d_A_meetMissing_35 : decode b_A_meetMissing 35 = .ok (.getfield 9, 3) := by decide +kernel
theorem d_A_meetMissing_38 : decode b_A_meetMissing 38 = .ok (.iload_n 1, 1) := by decide +kernel
theorem d_A_meetMissing_39 : decode b_A_meetMissing 39 = .ok (.laload, 1) := by decide +kernel
theorem d_A_meetMissing_40 : decode b_A_meetMissing 40 = .ok (.lcmp, 1) := by decide +kernel
theorem d_A_meetMissing_41 : decode b_A_meetMissing 41 = .ok (.ifCond .ne 7, 3) := by decide +kernel
theorem d_A_meetMissing_44 : decode b_A_meetMissing 44 = .ok (.iconst 1, 1) := by decide +kernel
theorem d_A_meetMissing_45 : decode b_A_meetMissing 45 = .ok (.goto 4, 3) := by decide +kernel
theorem d_A_meetMissing_48 : decode b_A_meetMissing 48 = .ok (.iconst 0, 1) := by decide +kernel
theorem d_A_meetMissing_49 : decode b_A_meetMissing 49 = .ok (.istore 4, 2) := by decide +kernel
theorem d_A_meetMissing_51 : decode b_A_meetMissing 51 = .ok (.iload 4, 2) := by decide +kernel
theorem d_A_meetMissing_53 : decode b_A_meetMissing 53 = .ok (.ifCond .eq 25, 3) := by decide +kernel
theorem d_A_meetMissing_56 : decode b_A_meetMissing 56 = .ok (.aload_n 0, 1) := by decide +kernel
theorem d_A_meetMissing_57 : decode b_A_meetMissing 57 = .ok (.iload_n 2, 1) := by decide +kernel
theorem d_A_meetMissing_58 : decode b_A_meetMissing 58 = .ok (.iload_n 3, 1) := by decide +kernel
theorem d_A_meetMissing_59 : decode b_A_meetMissing 59 = .ok (.invokevirtual 62, 3) := by decide +kernel
theorem d_A_meetMissing_62 : decode b_A_meetMissing 62 = .ok (.iconst (-1), 1) := by decide +kernel
theorem d_A_meetMissing_63 : decode b_A_meetMissing 63 = .ok (.if_icmp .ne 15, 3) := by decide +kernel
theorem d_A_meetMissing_66 : decode b_A_meetMissing 66 = .ok (.aload_n 0, 1) := by decide +kernel
theorem d_A_meetMissing_67 : decode b_A_meetMissing 67 = .ok (.getfield 38, 3) := by decide +kernel
theorem d_A_meetMissing_70 : decode b_A_meetMissing 70 = .ok (.iload_n 2, 1) := by decide +kernel
theorem d_A_meetMissing_71 : decode b_A_meetMissing 71 = .ok (.bipush 6, 2) := by decide +kernel
theorem d_A_meetMissing_73 : decode b_A_meetMissing 73 = .ok (.imul, 1) := by decide +kernel
theorem d_A_meetMissing_74 : decode b_A_meetMissing 74 = .ok (.iload_n 3, 1) := by decide +kernel
theorem d_A_meetMissing_75 : decode b_A_meetMissing 75 = .ok (.iadd, 1) := by decide +kernel
theorem d_A_meetMissing_76 : decode b_A_meetMissing 76 = .ok (.iload_n 1, 1) := by decide +kernel
theorem d_A_meetMissing_77 : decode b_A_meetMissing 77 = .ok (.iastore, 1) := by decide +kernel
theorem d_A_meetMissing_78 : decode b_A_meetMissing 78 = .ok (.iinc 3 1, 3) := by decide +kernel
theorem d_A_meetMissing_81 : decode b_A_meetMissing 81 = .ok (.goto (-69), 3) := by decide +kernel
theorem d_A_meetMissing_84 : decode b_A_meetMissing 84 = .ok (.iinc 2 1, 3) := by decide +kernel
theorem d_A_meetMissing_87 : decode b_A_meetMissing 87 = .ok (.goto (-85), 3) := by decide +kernel
theorem d_A_meetMissing_90 : decode b_A_meetMissing 90 = .ok (.return_, 1) := by decide +kernel
theorem d_A_add_0 : decode b_A_add 0 = .ok (.aload_n 0, 1) := by decide +kernel
theorem d_A_add_1 : decode b_A_add 1 = .ok (.getfield 47, 3) := by decide +kernel
theorem d_A_add_4 : decode b_A_add 4 = .ok (.bipush 32, 2) := by decide +kernel
theorem d_A_add_6 : decode b_A_add 6 = .ok (.if_icmp .lt 5, 3) := by decide +kernel
theorem d_A_add_9 : decode b_A_add 9 = .ok (.iconst (-1), 1) := by decide +kernel
theorem d_A_add_10 : decode b_A_add 10 = .ok (.ireturn, 1) := by decide +kernel
theorem d_A_add_11 : decode b_A_add 11 = .ok (.aload_n 0, 1) := by decide +kernel
theorem d_A_add_12 : decode b_A_add 12 = .ok (.getfield 47, 3) := by decide +kernel
theorem d_A_add_15 : decode b_A_add 15 = .ok (.istore 7, 2) := by decide +kernel
theorem d_A_add_17 : decode b_A_add 17 = .ok (.aload_n 0, 1) := by decide +kernel
theorem d_A_add_18 : decode b_A_add 18 = .ok (.getfield 9, 3) := by decide +kernel
theorem d_A_add_21 : decode b_A_add 21 = .ok (.iload 7, 2) := by decide +kernel
theorem d_A_add_23 : decode b_A_add 23 = .ok (.lload_n 1, 1) := by decide +kernel
theorem d_A_add_24 : decode b_A_add 24 = .ok (.lastore, 1) := by decide +kernel
theorem d_A_add_25 : decode b_A_add 25 = .ok (.aload_n 0, 1) := by decide +kernel
theorem d_A_add_26 : decode b_A_add 26 = .ok (.getfield 15, 3) := by decide +kernel
theorem d_A_add_29 : decode b_A_add 29 = .ok (.iload 7, 2) := by decide +kernel
theorem d_A_add_31 : decode b_A_add 31 = .ok (.iload_n 3, 1) := by decide +kernel
theorem d_A_add_32 : decode b_A_add 32 = .ok (.iastore, 1) := by decide +kernel
theorem d_A_add_33 : decode b_A_add 33 = .ok (.aload_n 0, 1) := by decide +kernel
theorem d_A_add_34 : decode b_A_add 34 = .ok (.getfield 19, 3) := by decide +kernel
theorem d_A_add_37 : decode b_A_add 37 = .ok (.iload 7, 2) := by decide +kernel
theorem d_A_add_39 : decode b_A_add 39 = .ok (.iload 4, 2) := by decide +kernel
theorem d_A_add_41 : decode b_A_add 41 = .ok (.iastore, 1) := by decide +kernel
theorem d_A_add_42 : decode b_A_add 42 = .ok (.aload_n 0, 1) := by decide +kernel
theorem d_A_add_43 : decode b_A_add 43 = .ok (.getfield 22, 3) := by decide +kernel
theorem d_A_add_46 : decode b_A_add 46 = .ok (.iload 7, 2) := by decide +kernel
theorem d_A_add_48 : decode b_A_add 48 = .ok (.iload 5, 2) := by decide +kernel
theorem d_A_add_50 : decode b_A_add 50 = .ok (.iastore, 1) := by decide +kernel
theorem d_A_add_51 : decode b_A_add 51 = .ok (.aload_n 0, 1) := by decide +kernel
theorem d_A_add_52 : decode b_A_add 52 = .ok (.getfield 25, 3) := by decide +kernel
theorem d_A_add_55 : decode b_A_add 55 = .ok (.iload 7, 2) := by decide +kernel
theorem d_A_add_57 : decode b_A_add 57 = .ok (.iload 6, 2) := by decide +kernel
theorem d_A_add_59 : decode b_A_add 59 = .ok (.iastore, 1) := by decide +kernel
theorem d_A_add_60 : decode b_A_add 60 = .ok (.aload_n 0, 1) := by decide +kernel
theorem d_A_add_61 : decode b_A_add 61 = .ok (.dup, 1) := by decide +kernel
theorem d_A_add_62 : decode b_A_add 62 = .ok (.getfield 47, 3) := by decide +kernel
theorem d_A_add_65 : decode b_A_add 65 = .ok (.iconst 1, 1) := by decide +kernel
theorem d_A_add_66 : decode b_A_add 66 = .ok (.iadd, 1) := by decide +kernel
theorem d_A_add_67 : decode b_A_add 67 = .ok (.putfield 47, 3) := by decide +kernel
theorem d_A_add_70 : decode b_A_add 70 = .ok (.aload_n 0, 1) := by decide +kernel
theorem d_A_add_71 : decode b_A_add 71 = .ok (.iload 7, 2) := by decide +kernel
theorem d_A_add_73 : decode b_A_add 73 = .ok (.invokevirtual 51, 3) := by decide +kernel
theorem d_A_add_76 : decode b_A_add 76 = .ok (.iload 7, 2) := by decide +kernel
theorem d_A_add_78 : decode b_A_add 78 = .ok (.ireturn, 1) := by decide +kernel
theorem d_P_artefact_0 : decode b_P_artefact 0 = .ok (.iload_n 3, 1) := by decide +kernel
theorem d_P_artefact_1 : decode b_P_artefact 1 = .ok (.iconst (-1), 1) := by decide +kernel
theorem d_P_artefact_2 : decode b_P_artefact 2 = .ok (.if_icmp .eq 12, 3) := by decide +kernel
theorem d_P_artefact_5 : decode b_P_artefact 5 = .ok (.iload_n 3, 1) := by decide +kernel
theorem d_P_artefact_6 : decode b_P_artefact 6 = .ok (.bipush 7, 2) := by decide +kernel
theorem d_P_artefact_8 : decode b_P_artefact 8 = .ok (.invokestatic 47, 3) := by decide +kernel
theorem d_P_artefact_11 : decode b_P_artefact 11 = .ok (.ifCond .eq 7, 3) := by decide +kernel
theorem d_P_artefact_14 : decode b_P_artefact 14 = .ok (.iconst 1, 1) := by decide +kernel
theorem d_P_artefact_15 : decode b_P_artefact 15 = .ok (.goto 4, 3) := by decide +kernel
theorem d_P_artefact_18 : decode b_P_artefact 18 = .ok (.iconst 0, 1) := by decide +kernel
theorem d_P_artefact_19 : decode b_P_artefact 19 = .ok (.istore 7, 2) := by decide +kernel
theorem d_P_artefact_21 : decode b_P_artefact 21 = .ok (.iload 7, 2) := by decide +kernel
theorem d_P_artefact_23 : decode b_P_artefact 23 = .ok (.ifCond .eq 13, 3) := by decide +kernel
theorem d_P_artefact_26 : decode b_P_artefact 26 = .ok (.iload 4, 2) := by decide +kernel
theorem d_P_artefact_28 : decode b_P_artefact 28 = .ok (.bipush 7, 2) := by decide +kernel
theorem d_P_artefact_30 : decode b_P_artefact 30 = .ok (.invokestatic 47, 3) := by decide +kernel
theorem d_P_artefact_33 : decode b_P_artefact 33 = .ok (.ifCond .ne 5, 3) := by decide +kernel
theorem d_P_artefact_36 : decode b_P_artefact 36 = .ok (.iconst (-1), 1) := by decide +kernel
theorem d_P_artefact_37 : decode b_P_artefact 37 = .ok (.ireturn, 1) := by decide +kernel
theorem d_P_artefact_38 : decode b_P_artefact 38 = .ok (.iload 5, 2) := by decide +kernel
theorem d_P_artefact_40 : decode b_P_artefact 40 = .ok (.bipush 15, 2) := by decide +kernel
theorem d_P_artefact_42 : decode b_P_artefact 42 = .ok (.invokestatic 47, 3) := by decide +kernel
theorem d_P_artefact_45 : decode b_P_artefact 45 = .ok (.ifCond .eq 13, 3) := by decide +kernel
theorem d_P_artefact_48 : decode b_P_artefact 48 = .ok (.iload 6, 2) := by decide +kernel
theorem d_P_artefact_50 : decode b_P_artefact 50 = .ok (.ldc 64, 2) := by decide +kernel
theorem d_P_artefact_52 : decode b_P_artefact 52 = .ok (.invokestatic 47, 3) := by decide +kernel
theorem d_P_artefact_55 : decode b_P_artefact 55 = .ok (.ifCond .ne 5, 3) := by decide +kernel
theorem d_P_artefact_58 : decode b_P_artefact 58 = .ok (.iconst (-1), 1) := by decide +kernel
theorem d_P_artefact_59 : decode b_P_artefact 59 = .ok (.ireturn, 1) := by decide +kernel
theorem d_P_artefact_60 : decode b_P_artefact 60 = .ok (.aload_n 0, 1) := by decide +kernel
theorem d_P_artefact_61 : decode b_P_artefact 61 = .ok (.getfield 19, 3) := by decide +kernel
theorem d_P_artefact_64 : decode b_P_artefact 64 = .ok (.lload_n 1, 1) := by decide +kernel
theorem d_P_artefact_65 : decode b_P_artefact 65 = .ok (.iload_n 3, 1) := by decide +kernel
theorem d_P_artefact_66 : decode b_P_artefact 66 = .ok (.iload 4, 2) := by decide +kernel
theorem d_P_artefact_68 : decode b_P_artefact 68 = .ok (.iload 5, 2) := by decide +kernel
theorem d_P_artefact_70 : decode b_P_artefact 70 = .ok (.iload 6, 2) := by decide +kernel
theorem d_P_artefact_72 : decode b_P_artefact 72 = .ok (.invokevirtual 65, 3) := by decide +kernel
theorem d_P_artefact_75 : decode b_P_artefact 75 = .ok (.ireturn, 1) := by decide +kernel
theorem d_A_has_0 : decode b_A_has 0 = .ok (.iload_n 1, 1) := by decide +kernel
theorem d_A_has_1 : decode b_A_has 1 = .ok (.ifCond .lt 15, 3) := by decide +kernel
theorem d_A_has_4 : decode b_A_has 4 = .ok (.iload_n 1, 1) := by decide +kernel
theorem d_A_has_5 : decode b_A_has 5 = .ok (.aload_n 0, 1) := by decide +kernel
theorem d_A_has_6 : decode b_A_has 6 = .ok (.getfield 47, 3) := by decide +kernel
theorem d_A_has_9 : decode b_A_has 9 = .ok (.if_icmp .ge 7, 3) := by decide +kernel
theorem d_A_has_12 : decode b_A_has 12 = .ok (.iconst 1, 1) := by decide +kernel
theorem d_A_has_13 : decode b_A_has 13 = .ok (.goto 4, 3) := by decide +kernel
theorem d_A_has_16 : decode b_A_has 16 = .ok (.iconst 0, 1) := by decide +kernel
theorem d_A_has_17 : decode b_A_has 17 = .ok (.ireturn, 1) := by decide +kernel
theorem d_W_contains_0 : decode b_W_contains 0 = .ok (.iconst 0, 1) := by decide +kernel
theorem d_W_contains_1 : decode b_W_contains 1 = .ok (.istore 4, 2) := by decide +kernel
theorem d_W_contains_3 : decode b_W_contains 3 = .ok (.iload 4, 2) := by decide +kernel
theorem d_W_contains_5 : decode b_W_contains 5 = .ok (.aload_n 0, 1) := by decide +kernel
theorem d_W_contains_6 : decode b_W_contains 6 = .ok (.getfield 9, 3) := by decide +kernel
theorem d_W_contains_9 : decode b_W_contains 9 = .ok (.iload_n 1, 1) := by decide +kernel
theorem d_W_contains_10 : decode b_W_contains 10 = .ok (.iaload, 1) := by decide +kernel
theorem d_W_contains_11 : decode b_W_contains 11 = .ok (.if_icmp .ge 23, 3) := by decide +kernel
theorem d_W_contains_14 : decode b_W_contains 14 = .ok (.aload_n 0, 1) := by decide +kernel
theorem d_W_contains_15 : decode b_W_contains 15 = .ok (.iload_n 1, 1) := by decide +kernel
theorem d_W_contains_16 : decode b_W_contains 16 = .ok (.iload 4, 2) := by decide +kernel
theorem d_W_contains_18 : decode b_W_contains 18 = .ok (.invokevirtual 23, 3) := by decide +kernel
theorem d_W_contains_21 : decode b_W_contains 21 = .ok (.lload_n 2, 1) := by decide +kernel
theorem d_W_contains_22 : decode b_W_contains 22 = .ok (.lcmp, 1) := by decide +kernel
theorem d_W_contains_23 : decode b_W_contains 23 = .ok (.ifCond .ne 5, 3) := by decide +kernel
theorem d_W_contains_26 : decode b_W_contains 26 = .ok (.iconst 1, 1) := by decide +kernel
theorem d_W_contains_27 : decode b_W_contains 27 = .ok (.ireturn, 1) := by decide +kernel
theorem d_W_contains_28 : decode b_W_contains 28 = .ok (.iinc 4 1, 3) := by decide +kernel
theorem d_W_contains_31 : decode b_W_contains 31 = .ok (.goto (-28), 3) := by decide +kernel
theorem d_W_contains_34 : decode b_W_contains 34 = .ok (.iconst 0, 1) := by decide +kernel
theorem d_W_contains_35 : decode b_W_contains 35 = .ok (.ireturn, 1) := by decide +kernel
theorem d_W_append_0 : decode b_W_append 0 = .ok (.aload_n 0, 1) := by decide +kernel
theorem d_W_append_1 : decode b_W_append 1 = .ok (.getfield 9, 3) := by decide +kernel
theorem d_W_append_4 : decode b_W_append 4 = .ok (.iload_n 1, 1) := by decide +kernel
theorem d_W_append_5 : decode b_W_append 5 = .ok (.iaload, 1) := by decide +kernel
theorem d_W_append_6 : decode b_W_append 6 = .ok (.bipush 6, 2) := by decide +kernel
theorem d_W_append_8 : decode b_W_append 8 = .ok (.if_icmp .ge 12, 3) := by decide +kernel
theorem d_W_append_11 : decode b_W_append 11 = .ok (.aload_n 0, 1) := by decide +kernel
theorem d_W_append_12 : decode b_W_append 12 = .ok (.iload_n 1, 1) := by decide +kernel
theorem d_W_append_13 : decode b_W_append 13 = .ok (.lload_n 2, 1) := by decide +kernel
theorem d_W_append_14 : decode b_W_append 14 = .ok (.invokevirtual 19, 3) := by decide +kernel
theorem d_W_append_17 : decode b_W_append 17 = .ok (.ifCond .eq 5, 3) := by decide +kernel
theorem d_W_append_20 : decode b_W_append 20 = .ok (.iconst 0, 1) := by decide +kernel
theorem d_W_append_21 : decode b_W_append 21 = .ok (.ireturn, 1) := by decide +kernel
theorem d_W_append_22 : decode b_W_append 22 = .ok (.aload_n 0, 1) := by decide +kernel
theorem d_W_append_23 : decode b_W_append 23 = .ok (.getfield 15, 3) := by decide +kernel
theorem d_W_append_26 : decode b_W_append 26 = .ok (.iload_n 1, 1) := by decide +kernel
theorem d_W_append_27 : decode b_W_append 27 = .ok (.bipush 6, 2) := by decide +kernel
theorem d_W_append_29 : decode b_W_append 29 = .ok (.imul, 1) := by decide +kernel
theorem d_W_append_30 : decode b_W_append 30 = .ok (.aload_n 0, 1) := by decide +kernel
theorem d_W_append_31 : decode b_W_append 31 = .ok (.getfield 9, 3) := by decide +kernel
theorem d_W_append_34 : decode b_W_append 34 = .ok (.iload_n 1, 1) := by decide +kernel
theorem d_W_append_35 : decode b_W_append 35 = .ok (.iaload, 1) := by decide +kernel
theorem d_W_append_36 : decode b_W_append 36 = .ok (.iadd, 1) := by decide +kernel
theorem d_W_append_37 : decode b_W_append 37 = .ok (.lload_n 2, 1) := by decide +kernel
theorem d_W_append_38 : decode b_W_append 38 = .ok (.lastore, 1) := by decide +kernel
theorem d_W_append_39 : decode b_W_append 39 = .ok (.aload_n 0, 1) := by decide +kernel
theorem d_W_append_40 : decode b_W_append 40 = .ok (.getfield 9, 3) := by decide +kernel
theorem d_W_append_43 : decode b_W_append 43 = .ok (.iload_n 1, 1) := by decide +kernel
theorem d_W_append_44 : decode b_W_append 44 = .ok (.dup2, 1) := by decide +kernel
theorem d_W_append_45 : decode b_W_append 45 = .ok (.iaload, 1) := by decide +kernel
theorem d_W_append_46 : decode b_W_append 46 = .ok (.iconst 1, 1) := by decide +kernel
theorem d_W_append_47 : decode b_W_append 47 = .ok (.iadd, 1) := by decide +kernel
theorem d_W_append_48 : decode b_W_append 48 = .ok (.iastore, 1) := by decide +kernel
theorem d_W_append_49 : decode b_W_append 49 = .ok (.iconst 1, 1) := by decide +kernel
theorem d_W_append_50 : decode b_W_append 50 = .ok (.ireturn, 1) := by decide +kernel
theorem d_P_uses_0 : decode b_P_uses 0 = .ok (.aload_n 0, 1) := by decide +kernel
theorem d_P_uses_1 : decode b_P_uses 1 = .ok (.getfield 19, 3) := by decide +kernel
theorem d_P_uses_4 : decode b_P_uses 4 = .ok (.iload_n 1, 1) := by decide +kernel
theorem d_P_uses_5 : decode b_P_uses 5 = .ok (.invokevirtual 68, 3) := by decide +kernel
theorem d_P_uses_8 : decode b_P_uses 8 = .ok (.ifCond .eq 14, 3) := by decide +kernel
theorem d_P_uses_11 : decode b_P_uses 11 = .ok (.aload_n 0, 1) := by decide +kernel
theorem d_P_uses_12 : decode b_P_uses 12 = .ok (.getfield 10, 3) := by decide +kernel
theorem d_P_uses_15 : decode b_P_uses 15 = .ok (.iload_n 2, 1) := by decide +kernel
theorem d_P_uses_16 : decode b_P_uses 16 = .ok (.invokevirtual 56, 3) := by decide +kernel
theorem d_P_uses_19 : decode b_P_uses 19 = .ok (.ifCond .ne 5, 3) := by decide +kernel
theorem d_P_uses_22 : decode b_P_uses 22 = .ok (.iconst 0, 1) := by decide +kernel
theorem d_P_uses_23 : decode b_P_uses 23 = .ok (.ireturn, 1) := by decide +kernel
theorem d_P_uses_24 : decode b_P_uses 24 = .ok (.aload_n 0, 1) := by decide +kernel
theorem d_P_uses_25 : decode b_P_uses 25 = .ok (.getfield 19, 3) := by decide +kernel
theorem d_P_uses_28 : decode b_P_uses 28 = .ok (.getfield 69, 3) := by decide +kernel
theorem d_P_uses_31 : decode b_P_uses 31 = .ok (.iload_n 1, 1) := by decide +kernel
theorem d_P_uses_32 : decode b_P_uses 32 = .ok (.iload_n 2, 1) := by decide +kernel
theorem d_P_uses_33 : decode b_P_uses 33 = .ok (.i2l, 1) := by decide +kernel
theorem d_P_uses_34 : decode b_P_uses 34 = .ok (.invokevirtual 73, 3) := by decide +kernel
theorem d_P_uses_37 : decode b_P_uses 37 = .ok (.ireturn, 1) := by decide +kernel
theorem d_A_firstOf_0 : decode b_A_firstOf 0 = .ok (.iconst 0, 1) := by decide +kernel
theorem d_A_firstOf_1 : decode b_A_firstOf 1 = .ok (.istore_n 3, 1) := by decide +kernel
theorem d_A_firstOf_2 : decode b_A_firstOf 2 = .ok (.iload_n 3, 1) := by decide +kernel
theorem d_A_firstOf_3 : decode b_A_firstOf 3 = .ok (.aload_n 0, 1) := by decide +kernel
theorem d_A_firstOf_4 : decode b_A_firstOf 4 = .ok (.getfield 47, 3) := by decide +kernel
theorem d_A_firstOf_7 : decode b_A_firstOf 7 = .ok (.if_icmp .ge 22, 3) := by decide +kernel
theorem d_A_firstOf_10 : decode b_A_firstOf 10 = .ok (.aload_n 0, 1) := by decide +kernel
theorem d_A_firstOf_11 : decode b_A_firstOf 11 = .ok (.getfield 9, 3) := by decide +kernel
theorem d_A_firstOf_14 : decode b_A_firstOf 14 = .ok (.iload_n 3, 1) := by decide +kernel
theorem d_A_firstOf_15 : decode b_A_firstOf 15 = .ok (.laload, 1) := by decide +kernel
theorem d_A_firstOf_16 : decode b_A_firstOf 16 = .ok (.lload_n 1, 1) := by decide +kernel
theorem d_A_firstOf_17 : decode b_A_firstOf 17 = .ok (.lcmp, 1) := by decide +kernel
theorem d_A_firstOf_18 : decode b_A_firstOf 18 = .ok (.ifCond .ne 5, 3) := by decide +kernel
theorem d_A_firstOf_21 : decode b_A_firstOf 21 = .ok (.iload_n 3, 1) := by decide +kernel
theorem d_A_firstOf_22 : decode b_A_firstOf 22 = .ok (.ireturn, 1) := by decide +kernel
theorem d_A_firstOf_23 : decode b_A_firstOf 23 = .ok (.iinc 3 1, 3) := by decide +kernel
theorem d_A_firstOf_26 : decode b_A_firstOf 26 = .ok (.goto (-24), 3) := by decide +kernel
theorem d_A_firstOf_29 : decode b_A_firstOf 29 = .ok (.iconst (-1), 1) := by decide +kernel
theorem d_A_firstOf_30 : decode b_A_firstOf 30 = .ok (.ireturn, 1) := by decide +kernel
theorem d_A_addNeeded_0 : decode b_A_addNeeded 0 = .ok (.aload_n 0, 1) := by decide +kernel
theorem d_A_addNeeded_1 : decode b_A_addNeeded 1 = .ok (.getfield 35, 3) := by decide +kernel
theorem d_A_addNeeded_4 : decode b_A_addNeeded 4 = .ok (.getfield 55, 3) := by decide +kernel
theorem d_A_addNeeded_7 : decode b_A_addNeeded 7 = .ok (.iload_n 1, 1) := by decide +kernel
theorem d_A_addNeeded_8 : decode b_A_addNeeded 8 = .ok (.iaload, 1) := by decide +kernel
theorem d_A_addNeeded_9 : decode b_A_addNeeded 9 = .ok (.istore 4, 2) := by decide +kernel
theorem d_A_addNeeded_11 : decode b_A_addNeeded 11 = .ok (.aload_n 0, 1) := by decide +kernel
theorem d_A_addNeeded_12 : decode b_A_addNeeded 12 = .ok (.getfield 35, 3) := by decide +kernel
theorem d_A_addNeeded_15 : decode b_A_addNeeded 15 = .ok (.iload_n 1, 1) := by decide +kernel
theorem d_A_addNeeded_16 : decode b_A_addNeeded 16 = .ok (.lload_n 2, 1) := by decide +kernel
theorem d_A_addNeeded_17 : decode b_A_addNeeded 17 = .ok (.invokevirtual 66, 3) := by decide +kernel
theorem d_A_addNeeded_20 : decode b_A_addNeeded 20 = .ok (.ifCond .ne 5, 3) := by decide +kernel
theorem d_A_addNeeded_23 : decode b_A_addNeeded 23 = .ok (.iconst 0, 1) := by decide +kernel
theorem d_A_addNeeded_24 : decode b_A_addNeeded 24 = .ok (.ireturn, 1) := by decide +kernel
theorem d_A_addNeeded_25 : decode b_A_addNeeded 25 = .ok (.aload_n 0, 1) := by decide +kernel
theorem d_A_addNeeded_26 : decode b_A_addNeeded 26 = .ok (.getfield 38, 3) := by decide +kernel
theorem d_A_addNeeded_29 : decode b_A_addNeeded 29 = .ok (.iload_n 1, 1) := by decide +kernel
theorem d_A_addNeeded_30 : decode b_A_addNeeded 30 = .ok (.bipush 6, 2) := by decide +kernel
theorem d_A_addNeeded_32 : decode b_A_addNeeded 32 = .ok (.imul, 1) := by decide +kernel
theorem d_A_addNeeded_33 : decode b_A_addNeeded 33 = .ok (.iload 4, 2) := by decide +kernel
theorem d_A_addNeeded_35 : decode b_A_addNeeded 35 = .ok (.iadd, 1) := by decide +kernel
theorem d_A_addNeeded_36 : decode b_A_addNeeded 36 = .ok (.aload_n 0, 1) := by decide +kernel
theorem d_A_addNeeded_37 : decode b_A_addNeeded 37 = .ok (.lload_n 2, 1) := by decide +kernel
theorem d_A_addNeeded_38 : decode b_A_addNeeded 38 = .ok (.invokevirtual 70, 3) := by decide +kernel
theorem d_A_addNeeded_41 : decode b_A_addNeeded 41 = .ok (.iastore, 1) := by decide +kernel
theorem d_A_addNeeded_42 : decode b_A_addNeeded 42 = .ok (.iconst 1, 1) := by decide +kernel
theorem d_A_addNeeded_43 : decode b_A_addNeeded 43 = .ok (.ireturn, 1) := by decide +kernel
theorem d_P_needs_0 : decode b_P_needs 0 = .ok (.aload_n 0, 1) := by decide +kernel
theorem d_P_needs_1 : decode b_P_needs 1 = .ok (.getfield 19, 3) := by decide +kernel
theorem d_P_needs_4 : decode b_P_needs 4 = .ok (.iload_n 1, 1) := by decide +kernel
theorem d_P_needs_5 : decode b_P_needs 5 = .ok (.invokevirtual 68, 3) := by decide +kernel
theorem d_P_needs_8 : decode b_P_needs 8 = .ok (.ifCond .ne 5, 3) := by decide +kernel
theorem d_P_needs_11 : decode b_P_needs 11 = .ok (.iconst 0, 1) := by decide +kernel
theorem d_P_needs_12 : decode b_P_needs 12 = .ok (.ireturn, 1) := by decide +kernel
theorem d_P_needs_13 : decode b_P_needs 13 = .ok (.aload_n 0, 1) := by decide +kernel
theorem d_P_needs_14 : decode b_P_needs 14 = .ok (.getfield 19, 3) := by decide +kernel
theorem d_P_needs_17 : decode b_P_needs 17 = .ok (.iload_n 1, 1) := by decide +kernel
theorem d_P_needs_18 : decode b_P_needs 18 = .ok (.lload_n 2, 1) := by decide +kernel
theorem d_P_needs_19 : decode b_P_needs 19 = .ok (.invokevirtual 79, 3) := by decide +kernel
theorem d_P_needs_22 : decode b_P_needs 22 = .ok (.ireturn, 1) := by decide +kernel
theorem d_A_setPath_0 : decode b_A_setPath 0 = .ok (.aload_n 0, 1) := by decide +kernel
theorem d_A_setPath_1 : decode b_A_setPath 1 = .ok (.getfield 41, 3) := by decide +kernel
theorem d_A_setPath_4 : decode b_A_setPath 4 = .ok (.iload_n 1, 1) := by decide +kernel
theorem d_A_setPath_5 : decode b_A_setPath 5 = .ok (.dup2, 1) := by decide +kernel
theorem d_A_setPath_6 : decode b_A_setPath 6 = .ok (.iaload, 1) := by decide +kernel
theorem d_A_setPath_7 : decode b_A_setPath 7 = .ok (.iconst 1, 1) := by decide +kernel
theorem d_A_setPath_8 : decode b_A_setPath 8 = .ok (.iload_n 2, 1) := by decide +kernel
theorem d_A_setPath_9 : decode b_A_setPath 9 = .ok (.ishl, 1) := by decide +kernel
theorem d_A_setPath_10 : decode b_A_setPath 10 = .ok (.ior, 1) := by decide +kernel
theorem d_A_setPath_11 : decode b_A_setPath 11 = .ok (.iastore, 1) := by decide +kernel
theorem d_A_setPath_12 : decode b_A_setPath 12 = .ok (.aload_n 0, 1) := by decide +kernel
theorem d_A_setPath_13 : decode b_A_setPath 13 = .ok (.getfield 44, 3) := by decide +kernel
theorem d_A_setPath_16 : decode b_A_setPath 16 = .ok (.iload_n 1, 1) := by decide +kernel
theorem d_A_setPath_17 : decode b_A_setPath 17 = .ok (.bipush 8, 2) := by decide +kernel
theorem d_A_setPath_19 : decode b_A_setPath 19 = .ok (.imul, 1) := by decide +kernel
theorem d_A_setPath_20 : decode b_A_setPath 20 = .ok (.iload_n 2, 1) := by decide +kernel
theorem d_A_setPath_21 : decode b_A_setPath 21 = .ok (.iadd, 1) := by decide +kernel
theorem d_A_setPath_22 : decode b_A_setPath 22 = .ok (.lload_n 3, 1) := by decide +kernel
theorem d_A_setPath_23 : decode b_A_setPath 23 = .ok (.lastore, 1) := by decide +kernel
theorem d_A_setPath_24 : decode b_A_setPath 24 = .ok (.return_, 1) := by decide +kernel
theorem d_P_path_0 : decode b_P_path 0 = .ok (.aload_n 0, 1) := by decide +kernel
theorem d_P_path_1 : decode b_P_path 1 = .ok (.getfield 19, 3) := by decide +kernel
theorem d_P_path_4 : decode b_P_path 4 = .ok (.iload_n 1, 1) := by decide +kernel
theorem d_P_path_5 : decode b_P_path 5 = .ok (.invokevirtual 68, 3) := by decide +kernel
theorem d_P_path_8 : decode b_P_path 8 = .ok (.ifCond .eq 12, 3) := by decide +kernel
theorem d_P_path_11 : decode b_P_path 11 = .ok (.iload_n 2, 1) := by decide +kernel
theorem d_P_path_12 : decode b_P_path 12 = .ok (.bipush 7, 2) := by decide +kernel
theorem d_P_path_14 : decode b_P_path 14 = .ok (.invokestatic 47, 3) := by decide +kernel
theorem d_P_path_17 : decode b_P_path 17 = .ok (.ifCond .ne 5, 3) := by decide +kernel
theorem d_P_path_20 : decode b_P_path 20 = .ok (.iconst 0, 1) := by decide +kernel
theorem d_P_path_21 : decode b_P_path 21 = .ok (.ireturn, 1) := by decide +kernel
theorem d_P_path_22 : decode b_P_path 22 = .ok (.aload_n 0, 1) := by decide +kernel
theorem d_P_path_23 : decode b_P_path 23 = .ok (.getfield 19, 3) := by decide +kernel
theorem d_P_path_26 : decode b_P_path 26 = .ok (.iload_n 1, 1) := by decide +kernel
theorem d_P_path_27 : decode b_P_path 27 = .ok (.iload_n 2, 1) := by decide +kernel
theorem d_P_path_28 : decode b_P_path 28 = .ok (.lload_n 3, 1) := by decide +kernel
theorem d_P_path_29 : decode b_P_path 29 = .ok (.invokevirtual 82, 3) := by decide +kernel
theorem d_P_path_32 : decode b_P_path 32 = .ok (.iconst 1, 1) := by decide +kernel
theorem d_P_path_33 : decode b_P_path 33 = .ok (.ireturn, 1) := by decide +kernel
theorem d_Y_add_0 : decode b_Y_add 0 = .ok (.aload_n 0, 1) := by decide +kernel
theorem d_Y_add_1 : decode b_Y_add 1 = .ok (.getfield 18, 3) := by decide +kernel
theorem d_Y_add_4 : decode b_Y_add 4 = .ok (.bipush 16, 2) := by decide +kernel
theorem d_Y_add_6 : decode b_Y_add 6 = .ok (.if_icmp .lt 5, 3) := by decide +kernel
theorem d_Y_add_9 : decode b_Y_add 9 = .ok (.iconst (-1), 1) := by decide +kernel
theorem d_Y_add_10 : decode b_Y_add 10 = .ok (.ireturn, 1) := by decide +kernel
theorem d_Y_add_11 : decode b_Y_add 11 = .ok (.aload_n 0, 1) := by decide +kernel
theorem d_Y_add_12 : decode b_Y_add 12 = .ok (.getfield 18, 3) := by decide +kernel
theorem d_Y_add_15 : decode b_Y_add 15 = .ok (.istore_n 3, 1) := by decide +kernel
theorem d_Y_add_16 : decode b_Y_add 16 = .ok (.aload_n 0, 1) := by decide +kernel
theorem d_Y_add_17 : decode b_Y_add 17 = .ok (.getfield 9, 3) := by decide +kernel
theorem d_Y_add_20 : decode b_Y_add 20 = .ok (.iload_n 3, 1) := by decide +kernel
theorem d_Y_add_21 : decode b_Y_add 21 = .ok (.iload_n 1, 1) := by decide +kernel
theorem d_Y_add_22 : decode b_Y_add 22 = .ok (.iastore, 1) := by decide +kernel
theorem d_Y_add_23 : decode b_Y_add 23 = .ok (.aload_n 0, 1) := by decide +kernel
theorem d_Y_add_24 : decode b_Y_add 24 = .ok (.getfield 15, 3) := by decide +kernel
theorem d_Y_add_27 : decode b_Y_add 27 = .ok (.iload_n 3, 1) := by decide +kernel
theorem d_Y_add_28 : decode b_Y_add 28 = .ok (.iload_n 2, 1) := by decide +kernel
theorem d_Y_add_29 : decode b_Y_add 29 = .ok (.iastore, 1) := by decide +kernel
theorem d_Y_add_30 : decode b_Y_add 30 = .ok (.aload_n 0, 1) := by decide +kernel
theorem d_Y_add_31 : decode b_Y_add 31 = .ok (.dup, 1) := by decide +kernel
theorem d_Y_add_32 : decode b_Y_add 32 = .ok (.getfield 18, 3) := by decide +kernel
theorem d_Y_add_35 : decode b_Y_add 35 = .ok (.iconst 1, 1) := by decide +kernel
theorem d_Y_add_36 : decode b_Y_add 36 = .ok (.iadd, 1) := by decide +kernel
theorem d_Y_add_37 : decode b_Y_add 37 = .ok (.putfield 18, 3) := by decide +kernel
theorem d_Y_add_40 : decode b_Y_add 40 = .ok (.iload_n 3, 1) := by decide +kernel
theorem d_Y_add_41 : decode b_Y_add 41 = .ok (.ireturn, 1) := by decide +kernel
theorem d_P_policy_0 : decode b_P_policy 0 = .ok (.iload_n 1, 1) := by decide +kernel
theorem d_P_policy_1 : decode b_P_policy 1 = .ok (.bipush 9, 2) := by decide +kernel
theorem d_P_policy_3 : decode b_P_policy 3 = .ok (.invokestatic 47, 3) := by decide +kernel
theorem d_P_policy_6 : decode b_P_policy 6 = .ok (.ifCond .ne 5, 3) := by decide +kernel
theorem d_P_policy_9 : decode b_P_policy 9 = .ok (.iconst (-1), 1) := by decide +kernel
theorem d_P_policy_10 : decode b_P_policy 10 = .ok (.ireturn, 1) := by decide +kernel
theorem d_P_policy_11 : decode b_P_policy 11 = .ok (.aload_n 0, 1) := by decide +kernel
theorem d_P_policy_12 : decode b_P_policy 12 = .ok (.getfield 26, 3) := by decide +kernel
theorem d_P_policy_15 : decode b_P_policy 15 = .ok (.iload_n 1, 1) := by decide +kernel
theorem d_P_policy_16 : decode b_P_policy 16 = .ok (.iload_n 2, 1) := by decide +kernel
theorem d_P_policy_17 : decode b_P_policy 17 = .ok (.invokevirtual 86, 3) := by decide +kernel
theorem d_P_policy_20 : decode b_P_policy 20 = .ok (.ireturn, 1) := by decide +kernel
theorem d_P_hasBit_0 : decode b_P_hasBit 0 = .ok (.iload_n 1, 1) := by decide +kernel
theorem d_P_hasBit_1 : decode b_P_hasBit 1 = .ok (.ifCond .lt 15, 3) := by decide +kernel
theorem d_P_hasBit_4 : decode b_P_hasBit 4 = .ok (.iload_n 0, 1) := by decide +kernel
theorem d_P_hasBit_5 : decode b_P_hasBit 5 = .ok (.iload_n 1, 1) := by decide +kernel
theorem d_P_hasBit_6 : decode b_P_hasBit 6 = .ok (.iushr, 1) := by decide +kernel
theorem d_P_hasBit_7 : decode b_P_hasBit 7 = .ok (.iconst 1, 1) := by decide +kernel
theorem d_P_hasBit_8 : decode b_P_hasBit 8 = .ok (.iand, 1) := by decide +kernel
theorem d_P_hasBit_9 : decode b_P_hasBit 9 = .ok (.ifCond .eq 7, 3) := by decide +kernel
theorem d_P_hasBit_12 : decode b_P_hasBit 12 = .ok (.iconst 1, 1) := by decide +kernel
theorem d_P_hasBit_13 : decode b_P_hasBit 13 = .ok (.goto 4, 3) := by decide +kernel
theorem d_P_hasBit_16 : decode b_P_hasBit 16 = .ok (.iconst 0, 1) := by decide +kernel
theorem d_P_hasBit_17 : decode b_P_hasBit 17 = .ok (.ireturn, 1) := by decide +kernel
theorem d_Q_reach_0 : decode b_Q_reach 0 = .ok (.iload_n 1, 1) := by decide +kernel
theorem d_Q_reach_1 : decode b_Q_reach 1 = .ok (.iconst (-1), 1) := by decide +kernel
theorem d_Q_reach_2 : decode b_Q_reach 2 = .ok (.if_icmp .eq 23, 3) := by decide +kernel
theorem d_Q_reach_5 : decode b_Q_reach 5 = .ok (.aload_n 0, 1) := by decide +kernel
theorem d_Q_reach_6 : decode b_Q_reach 6 = .ok (.getfield 19, 3) := by decide +kernel
theorem d_Q_reach_9 : decode b_Q_reach 9 = .ok (.iload_n 1, 1) := by decide +kernel
theorem d_Q_reach_10 : decode b_Q_reach 10 = .ok (.invokestatic 41, 3) := by decide +kernel
theorem d_Q_reach_13 : decode b_Q_reach 13 = .ok (.ifCond .ne 12, 3) := by decide +kernel
theorem d_Q_reach_16 : decode b_Q_reach 16 = .ok (.aload_n 0, 1) := by decide +kernel
theorem d_Q_reach_17 : decode b_Q_reach 17 = .ok (.getfield 15, 3) := by decide +kernel
theorem d_Q_reach_20 : decode b_Q_reach 20 = .ok (.bipush 32, 2) := by decide +kernel
theorem d_Q_reach_22 : decode b_Q_reach 22 = .ok (.if_icmp .lt 4, 3) := by decide +kernel
theorem d_Q_reach_25 : decode b_Q_reach 25 = .ok (.return_, 1) := by decide +kernel
theorem d_Q_reach_26 : decode b_Q_reach 26 = .ok (.aload_n 0, 1) := by decide +kernel
theorem d_Q_reach_27 : decode b_Q_reach 27 = .ok (.dup, 1) := by decide +kernel
theorem d_Q_reach_28 : decode b_Q_reach 28 = .ok (.getfield 19, 3) := by decide +kernel
theorem d_Q_reach_31 : decode b_Q_reach 31 = .ok (.iconst 1, 1) := by decide +kernel
theorem d_Q_reach_32 : decode b_Q_reach 32 = .ok (.iload_n 1, 1) := by decide +kernel
theorem d_Q_reach_33 : decode b_Q_reach 33 = .ok (.ishl, 1) := by decide +kernel
theorem d_Q_reach_34 : decode b_Q_reach 34 = .ok (.ior, 1) := by decide +kernel
theorem d_Q_reach_35 : decode b_Q_reach 35 = .ok (.putfield 19, 3) := by decide +kernel
theorem d_Q_reach_38 : decode b_Q_reach 38 = .ok (.aload_n 0, 1) := by decide +kernel
theorem d_Q_reach_39 : decode b_Q_reach 39 = .ok (.getfield 9, 3) := by decide +kernel
theorem d_Q_reach_42 : decode b_Q_reach 42 = .ok (.aload_n 0, 1) := by decide +kernel
theorem d_Q_reach_43 : decode b_Q_reach 43 = .ok (.getfield 15, 3) := by decide +kernel
theorem d_Q_reach_46 : decode b_Q_reach 46 = .ok (.iload_n 1, 1) := by decide +kernel
theorem d_Q_reach_47 : decode b_Q_reach 47 = .ok (.iastore, 1) := by decide +kernel
theorem d_Q_reach_48 : decode b_Q_reach 48 = .ok (.aload_n 0, 1) := by decide +kernel
theorem d_Q_reach_49 : decode b_Q_reach 49 = .ok (.dup, 1) := by decide +kernel
theorem d_Q_reach_50 : decode b_Q_reach 50 = .ok (.getfield 15, 3) := by decide +kernel
theorem d_Q_reach_53 : decode b_Q_reach 53 = .ok (.iconst 1, 1) := by decide +kernel
theorem d_Q_reach_54 : decode b_Q_reach 54 = .ok (.iadd, 1) := by decide +kernel
theorem d_Q_reach_55 : decode b_Q_reach 55 = .ok (.putfield 15, 3) := by decide +kernel
theorem d_Q_reach_58 : decode b_Q_reach 58 = .ok (.return_, 1) := by decide +kernel
theorem d_Q_walk_0 : decode b_Q_walk 0 = .ok (.aload_n 0, 1) := by decide +kernel
theorem d_Q_walk_1 : decode b_Q_walk 1 = .ok (.iconst 0, 1) := by decide +kernel
theorem d_Q_walk_2 : decode b_Q_walk 2 = .ok (.putfield 15, 3) := by decide +kernel
theorem d_Q_walk_5 : decode b_Q_walk 5 = .ok (.aload_n 0, 1) := by decide +kernel
theorem d_Q_walk_6 : decode b_Q_walk 6 = .ok (.iconst 0, 1) := by decide +kernel
theorem d_Q_walk_7 : decode b_Q_walk 7 = .ok (.putfield 19, 3) := by decide +kernel
theorem d_Q_walk_10 : decode b_Q_walk 10 = .ok (.aload_n 0, 1) := by decide +kernel
theorem d_Q_walk_11 : decode b_Q_walk 11 = .ok (.iload_n 2, 1) := by decide +kernel
theorem d_Q_walk_12 : decode b_Q_walk 12 = .ok (.invokevirtual 22, 3) := by decide +kernel
theorem d_Q_walk_15 : decode b_Q_walk 15 = .ok (.iconst 0, 1) := by decide +kernel
theorem d_Q_walk_16 : decode b_Q_walk 16 = .ok (.istore_n 3, 1) := by decide +kernel
theorem d_Q_walk_17 : decode b_Q_walk 17 = .ok (.iload_n 3, 1) := by decide +kernel
theorem d_Q_walk_18 : decode b_Q_walk 18 = .ok (.bipush 32, 2) := by decide +kernel
theorem d_Q_walk_20 : decode b_Q_walk 20 = .ok (.if_icmp .ge 61, 3) := by decide +kernel
theorem d_Q_walk_23 : decode b_Q_walk 23 = .ok (.iload_n 3, 1) := by decide +kernel
theorem d_Q_walk_24 : decode b_Q_walk 24 = .ok (.aload_n 0, 1) := by decide +kernel
theorem d_Q_walk_25 : decode b_Q_walk 25 = .ok (.getfield 15, 3) := by decide +kernel
theorem d_Q_walk_28 : decode b_Q_walk 28 = .ok (.if_icmp .ge 53, 3) := by decide +kernel
theorem d_Q_walk_31 : decode b_Q_walk 31 = .ok (.aload_n 0, 1) := by decide +kernel
theorem d_Q_walk_32 : decode b_Q_walk 32 = .ok (.getfield 9, 3) := by decide +kernel
theorem d_Q_walk_35 : decode b_Q_walk 35 = .ok (.iload_n 3, 1) := by decide +kernel
theorem d_Q_walk_36 : decode b_Q_walk 36 = .ok (.iaload, 1) := by decide +kernel
theorem d_Q_walk_37 : decode b_Q_walk 37 = .ok (.istore 4, 2) := by decide +kernel
theorem d_Q_walk_39 : decode b_Q_walk 39 = .ok (.iconst 0, 1) := by decide +kernel
theorem d_Q_walk_40 : decode b_Q_walk 40 = .ok (.istore 5, 2) := by decide +kernel
theorem d_Q_walk_42 : decode b_Q_walk 42 = .ok (.iload 5, 2) := by decide +kernel
theorem d_Q_walk_44 : decode b_Q_walk 44 = .ok (.aload_n 1, 1) := by decide +kernel
theorem d_Q_walk_45 : decode b_Q_walk 45 = .ok (.getfield 26, 3) := by decide +kernel
theorem d_Q_walk_48 : decode b_Q_walk 48 = .ok (.getfield 32, 3) := by decide +kernel
theorem d_Q_walk_51 : decode b_Q_walk 51 = .ok (.iload 4, 2) := by decide +kernel
theorem d_Q_walk_53 : decode b_Q_walk 53 = .ok (.iaload, 1) := by decide +kernel
theorem d_Q_walk_54 : decode b_Q_walk 54 = .ok (.if_icmp .ge 21, 3) := by decide +kernel
theorem d_Q_walk_57 : decode b_Q_walk 57 = .ok (.aload_n 0, 1) := by decide +kernel
theorem d_Q_walk_58 : decode b_Q_walk 58 = .ok (.aload_n 1, 1) := by decide +kernel
theorem d_Q_walk_59 : decode b_Q_walk 59 = .ok (.iload 4, 2) := by decide +kernel
theorem d_Q_walk_61 : decode b_Q_walk 61 = .ok (.iload 5, 2) := by decide +kernel
theorem d_Q_walk_63 : decode b_Q_walk 63 = .ok (.invokevirtual 37, 3) := by decide +kernel
theorem d_Q_walk_66 : decode b_Q_walk 66 = .ok (.invokevirtual 22, 3) := by decide +kernel
theorem d_Q_walk_69 : decode b_Q_walk 69 = .ok (.iinc 5 1, 3) := by decide +kernel
theorem d_Q_walk_72 : decode b_Q_walk 72 = .ok (.goto (-30), 3) := by decide +kernel
theorem d_Q_walk_75 : decode b_Q_walk 75 = .ok (.iinc 3 1, 3) := by decide +kernel
theorem d_Q_walk_78 : decode b_Q_walk 78 = .ok (.goto (-61), 3) := by decide +kernel
theorem d_Q_walk_81 : decode b_Q_walk 81 = .ok (.return_, 1) := by decide +kernel
theorem d_A_usedAt_0 : decode b_A_usedAt 0 = .ok (.aload_n 0, 1) := by decide +kernel
theorem d_A_usedAt_1 : decode b_A_usedAt 1 = .ok (.getfield 31, 3) := by decide +kernel
theorem d_A_usedAt_4 : decode b_A_usedAt 4 = .ok (.iload_n 1, 1) := by decide +kernel
theorem d_A_usedAt_5 : decode b_A_usedAt 5 = .ok (.iload_n 2, 1) := by decide +kernel
theorem d_A_usedAt_6 : decode b_A_usedAt 6 = .ok (.invokevirtual 58, 3) := by decide +kernel
theorem d_A_usedAt_9 : decode b_A_usedAt 9 = .ok (.l2i, 1) := by decide +kernel
theorem d_A_usedAt_10 : decode b_A_usedAt 10 = .ok (.ireturn, 1) := by decide +kernel
theorem d_P_usesBranchOutside_0 : decode b_P_usesBranchOutside 0 = .ok (.iconst 0, 1) := by decide +kernel
theorem d_P_usesBranchOutside_1 : decode b_P_usesBranchOutside 1 = .ok (.istore_n 3, 1) := by decide +kernel
theorem d_P_usesBranchOutside_2 : decode b_P_usesBranchOutside 2 = .ok (.iload_n 3, 1) := by decide +kernel
theorem d_P_usesBranchOutside_3 : decode b_P_usesBranchOutside 3 = .ok (.aload_n 0, 1) := by decide +kernel
theorem d_P_usesBranchOutside_4 : decode b_P_usesBranchOutside 4 = .ok (.getfield 19, 3) := by decide +kernel
theorem d_P_usesBranchOutside_7 : decode b_P_usesBranchOutside 7 = .ok (.getfield 69, 3) := by decide +kernel
theorem d_P_usesBranchOutside_10 : decode b_P_usesBranchOutside 10 = .ok (.getfield 176, 3) := by decide +kernel
theorem d_P_usesBranchOutside_13 : decode b_P_usesBranchOutside 13 = .ok (.iload_n 1, 1) := by decide +kernel
theorem d_P_usesBranchOutside_14 : decode b_P_usesBranchOutside 14 = .ok (.iaload, 1) := by decide +kernel
theorem d_P_usesBranchOutside_15 : decode b_P_usesBranchOutside 15 = .ok (.if_icmp .ge 35, 3) := by decide +kernel
theorem d_P_usesBranchOutside_18 : decode b_P_usesBranchOutside 18 = .ok (.iload_n 2, 1) := by decide +kernel
theorem d_P_usesBranchOutside_19 : decode b_P_usesBranchOutside 19 = .ok (.aload_n 0, 1) := by decide +kernel
theorem d_P_usesBranchOutside_20 : decode b_P_usesBranchOutside 20 = .ok (.getfield 10, 3) := by decide +kernel
theorem d_P_usesBranchOutside_23 : decode b_P_usesBranchOutside 23 = .ok (.getfield 179, 3) := by decide +kernel
theorem d_P_usesBranchOutside_26 : decode b_P_usesBranchOutside 26 = .ok (.aload_n 0, 1) := by decide +kernel
theorem d_P_usesBranchOutside_27 : decode b_P_usesBranchOutside 27 = .ok (.getfield 19, 3) := by decide +kernel
theorem d_P_usesBranchOutside_30 : decode b_P_usesBranchOutside 30 = .ok (.iload_n 1, 1) := by decide +kernel
theorem d_P_usesBranchOutside_31 : decode b_P_usesBranchOutside 31 = .ok (.iload_n 3, 1) := by decide +kernel
theorem d_P_usesBranchOutside_32 : decode b_P_usesBranchOutside 32 = .ok (.invokevirtual 182, 3) := by decide +kernel
theorem d_P_usesBranchOutside_35 : decode b_P_usesBranchOutside 35 = .ok (.iaload, 1) := by decide +kernel
theorem d_P_usesBranchOutside_36 : decode b_P_usesBranchOutside 36 = .ok (.invokestatic 155, 3) := by decide +kernel
theorem d_P_usesBranchOutside_39 : decode b_P_usesBranchOutside 39 = .ok (.ifCond .ne 5, 3) := by decide +kernel
theorem d_P_usesBranchOutside_42 : decode b_P_usesBranchOutside 42 = .ok (.iconst 1, 1) := by decide +kernel
theorem d_P_usesBranchOutside_43 : decode b_P_usesBranchOutside 43 = .ok (.ireturn, 1) := by decide +kernel
theorem d_P_usesBranchOutside_44 : decode b_P_usesBranchOutside 44 = .ok (.iinc 3 1, 3) := by decide +kernel
theorem d_P_usesBranchOutside_47 : decode b_P_usesBranchOutside 47 = .ok (.goto (-45), 3) := by decide +kernel
theorem d_P_usesBranchOutside_50 : decode b_P_usesBranchOutside 50 = .ok (.iconst 0, 1) := by decide +kernel
theorem d_P_usesBranchOutside_51 : decode b_P_usesBranchOutside 51 = .ok (.ireturn, 1) := by decide +kernel
theorem d_Ig_bitCount_0 : decode b_Ig_bitCount 0 = .ok (.iload_n 0, 1) := by decide +kernel
theorem d_Ig_bitCount_1 : decode b_Ig_bitCount 1 = .ok (.iload_n 0, 1) := by decide +kernel
theorem d_Ig_bitCount_2 : decode b_Ig_bitCount 2 = .ok (.iconst 1, 1) := by decide +kernel
theorem d_Ig_bitCount_3 : decode b_Ig_bitCount 3 = .ok (.iushr, 1) := by decide +kernel
theorem d_Ig_bitCount_4 : decode b_Ig_bitCount 4 = .ok (.ldc_w 265, 3) := by decide +kernel
theorem d_Ig_bitCount_7 : decode b_Ig_bitCount 7 = .ok (.iand, 1) := by decide +kernel
theorem d_Ig_bitCount_8 : decode b_Ig_bitCount 8 = .ok (.isub, 1) := by decide +kernel
theorem d_Ig_bitCount_9 : decode b_Ig_bitCount 9 = .ok (.istore_n 0, 1) := by decide +kernel
theorem d_Ig_bitCount_10 : decode b_Ig_bitCount 10 = .ok (.iload_n 0, 1) := by decide +kernel
theorem d_Ig_bitCount_11 : decode b_Ig_bitCount 11 = .ok (.ldc_w 266, 3) := by decide +kernel
theorem d_Ig_bitCount_14 : decode b_Ig_bitCount 14 = .ok (.iand, 1) := by decide +kernel
theorem d_Ig_bitCount_15 : decode b_Ig_bitCount 15 = .ok (.iload_n 0, 1) := by decide +kernel
theorem d_Ig_bitCount_16 : decode b_Ig_bitCount 16 = .ok (.iconst 2, 1) := by decide +kernel
theorem d_Ig_bitCount_17 : decode b_Ig_bitCount 17 = .ok (.iushr, 1) := by decide +kernel
theorem d_Ig_bitCount_18 : decode b_Ig_bitCount 18 = .ok (.ldc_w 266, 3) := by decide +kernel
theorem d_Ig_bitCount_21 : decode b_Ig_bitCount 21 = .ok (.iand, 1) := by decide +kernel
theorem d_Ig_bitCount_22 : decode b_Ig_bitCount 22 = .ok (.iadd, 1) := by decide +kernel
theorem d_Ig_bitCount_23 : decode b_Ig_bitCount 23 = .ok (.istore_n 0, 1) := by decide +kernel
theorem d_Ig_bitCount_24 : decode b_Ig_bitCount 24 = .ok (.iload_n 0, 1) := by decide +kernel
theorem d_Ig_bitCount_25 : decode b_Ig_bitCount 25 = .ok (.iload_n 0, 1) := by decide +kernel
theorem d_Ig_bitCount_26 : decode b_Ig_bitCount 26 = .ok (.iconst 4, 1) := by decide +kernel
theorem d_Ig_bitCount_27 : decode b_Ig_bitCount 27 = .ok (.iushr, 1) := by decide +kernel
theorem d_Ig_bitCount_28 : decode b_Ig_bitCount 28 = .ok (.iadd, 1) := by decide +kernel
theorem d_Ig_bitCount_29 : decode b_Ig_bitCount 29 = .ok (.ldc_w 267, 3) := by decide +kernel
theorem d_Ig_bitCount_32 : decode b_Ig_bitCount 32 = .ok (.iand, 1) := by decide +kernel
theorem d_Ig_bitCount_33 : decode b_Ig_bitCount 33 = .ok (.istore_n 0, 1) := by decide +kernel
theorem d_Ig_bitCount_34 : decode b_Ig_bitCount 34 = .ok (.iload_n 0, 1) := by decide +kernel
theorem d_Ig_bitCount_35 : decode b_Ig_bitCount 35 = .ok (.iload_n 0, 1) := by decide +kernel
theorem d_Ig_bitCount_36 : decode b_Ig_bitCount 36 = .ok (.bipush 8, 2) := by decide +kernel
theorem d_Ig_bitCount_38 : decode b_Ig_bitCount 38 = .ok (.iushr, 1) := by decide +kernel
theorem d_Ig_bitCount_39 : decode b_Ig_bitCount 39 = .ok (.iadd, 1) := by decide +kernel
theorem d_Ig_bitCount_40 : decode b_Ig_bitCount 40 = .ok (.istore_n 0, 1) := by decide +kernel
theorem d_Ig_bitCount_41 : decode b_Ig_bitCount 41 = .ok (.iload_n 0, 1) := by decide +kernel
theorem d_Ig_bitCount_42 : decode b_Ig_bitCount 42 = .ok (.iload_n 0, 1) := by decide +kernel
theorem d_Ig_bitCount_43 : decode b_Ig_bitCount 43 = .ok (.bipush 16, 2) := by decide +kernel
theorem d_Ig_bitCount_45 : decode b_Ig_bitCount 45 = .ok (.iushr, 1) := by decide +kernel
theorem d_Ig_bitCount_46 : decode b_Ig_bitCount 46 = .ok (.iadd, 1) := by decide +kernel
theorem d_Ig_bitCount_47 : decode b_Ig_bitCount 47 = .ok (.istore_n 0, 1) := by decide +kernel
theorem d_Ig_bitCount_48 : decode b_Ig_bitCount 48 = .ok (.iload_n 0, 1) := by decide +kernel
theorem d_Ig_bitCount_49 : decode b_Ig_bitCount 49 = .ok (.bipush 63, 2) := by decide +kernel
theorem d_Ig_bitCount_51 : decode b_Ig_bitCount 51 = .ok (.iand, 1) := by decide +kernel
theorem d_Ig_bitCount_52 : decode b_Ig_bitCount 52 = .ok (.ireturn, 1) := by decide +kernel
theorem d_P_usesReviewedBelow_0 : decode b_P_usesReviewedBelow 0 = .ok (.iconst 1, 1) := by decide +kernel
theorem d_P_usesReviewedBelow_1 : decode b_P_usesReviewedBelow 1 = .ok (.aload_n 0, 1) := by decide +kernel
theorem d_P_usesReviewedBelow_2 : decode b_P_usesReviewedBelow 2 = .ok (.getfield 19, 3) := by decide +kernel
theorem d_P_usesReviewedBelow_5 : decode b_P_usesReviewedBelow 5 = .ok (.getfield 133, 3) := by decide +kernel
theorem d_P_usesReviewedBelow_8 : decode b_P_usesReviewedBelow 8 = .ok (.iload_n 1, 1) := by decide +kernel
theorem d_P_usesReviewedBelow_9 : decode b_P_usesReviewedBelow 9 = .ok (.iaload, 1) := by decide +kernel
theorem d_P_usesReviewedBelow_10 : decode b_P_usesReviewedBelow 10 = .ok (.ishl, 1) := by decide +kernel
theorem d_P_usesReviewedBelow_11 : decode b_P_usesReviewedBelow 11 = .ok (.iconst (-1), 1) := by decide +kernel
theorem d_P_usesReviewedBelow_12 : decode b_P_usesReviewedBelow 12 = .ok (.ixor, 1) := by decide +kernel
theorem d_P_usesReviewedBelow_13 : decode b_P_usesReviewedBelow 13 = .ok (.istore_n 3, 1) := by decide +kernel
theorem d_P_usesReviewedBelow_14 : decode b_P_usesReviewedBelow 14 = .ok (.iconst 0, 1) := by decide +kernel
theorem d_P_usesReviewedBelow_15 : decode b_P_usesReviewedBelow 15 = .ok (.istore 4, 2) := by decide +kernel
theorem d_P_usesReviewedBelow_17 : decode b_P_usesReviewedBelow 17 = .ok (.iload 4, 2) := by decide +kernel
theorem d_P_usesReviewedBelow_19 : decode b_P_usesReviewedBelow 19 = .ok (.aload_n 0, 1) := by decide +kernel
theorem d_P_usesReviewedBelow_20 : decode b_P_usesReviewedBelow 20 = .ok (.getfield 19, 3) := by decide +kernel
theorem d_P_usesReviewedBelow_23 : decode b_P_usesReviewedBelow 23 = .ok (.getfield 69, 3) := by decide +kernel
theorem d_P_usesReviewedBelow_26 : decode b_P_usesReviewedBelow 26 = .ok (.getfield 176, 3) := by decide +kernel
theorem d_P_usesReviewedBelow_29 : decode b_P_usesReviewedBelow 29 = .ok (.iload_n 1, 1) := by decide +kernel
theorem d_P_usesReviewedBelow_30 : decode b_P_usesReviewedBelow 30 = .ok (.iaload, 1) := by decide +kernel
theorem d_P_usesReviewedBelow_31 : decode b_P_usesReviewedBelow 31 = .ok (.if_icmp .ge 42, 3) := by decide +kernel
theorem d_P_usesReviewedBelow_34 : decode b_P_usesReviewedBelow 34 = .ok (.aload_n 0, 1) := by decide +kernel
theorem d_P_usesReviewedBelow_35 : decode b_P_usesReviewedBelow 35 = .ok (.getfield 10, 3) := by decide +kernel
theorem d_P_usesReviewedBelow_38 : decode b_P_usesReviewedBelow 38 = .ok (.getfield 185, 3) := by decide +kernel
theorem d_P_usesReviewedBelow_41 : decode b_P_usesReviewedBelow 41 = .ok (.aload_n 0, 1) := by decide +kernel
theorem d_P_usesReviewedBelow_42 : decode b_P_usesReviewedBelow 42 = .ok (.getfield 19, 3) := by decide +kernel
theorem d_P_usesReviewedBelow_45 : decode b_P_usesReviewedBelow 45 = .ok (.iload_n 1, 1) := by decide +kernel
theorem d_P_usesReviewedBelow_46 : decode b_P_usesReviewedBelow 46 = .ok (.iload 4, 2) := by decide +kernel
theorem d_P_usesReviewedBelow_48 : decode b_P_usesReviewedBelow 48 = .ok (.invokevirtual 182, 3) := by decide +kernel
theorem d_P_usesReviewedBelow_51 : decode b_P_usesReviewedBelow 51 = .ok (.iaload, 1) := by decide +kernel
theorem d_P_usesReviewedBelow_52 : decode b_P_usesReviewedBelow 52 = .ok (.istore 5, 2) := by decide +kernel
theorem d_P_usesReviewedBelow_54 : decode b_P_usesReviewedBelow 54 = .ok (.iload 5, 2) := by decide +kernel
theorem d_P_usesReviewedBelow_56 : decode b_P_usesReviewedBelow 56 = .ok (.iload_n 3, 1) := by decide +kernel
theorem d_P_usesReviewedBelow_57 : decode b_P_usesReviewedBelow 57 = .ok (.iand, 1) := by decide +kernel
theorem d_P_usesReviewedBelow_58 : decode b_P_usesReviewedBelow 58 = .ok (.invokestatic 188, 3) := by decide +kernel
theorem d_P_usesReviewedBelow_61 : decode b_P_usesReviewedBelow 61 = .ok (.iload_n 2, 1) := by decide +kernel
theorem d_P_usesReviewedBelow_62 : decode b_P_usesReviewedBelow 62 = .ok (.if_icmp .ge 5, 3) := by decide +kernel
theorem d_P_usesReviewedBelow_65 : decode b_P_usesReviewedBelow 65 = .ok (.iconst 1, 1) := by decide +kernel
theorem d_P_usesReviewedBelow_66 : decode b_P_usesReviewedBelow 66 = .ok (.ireturn, 1) := by decide +kernel
theorem d_P_usesReviewedBelow_67 : decode b_P_usesReviewedBelow 67 = .ok (.iinc 4 1, 3) := by decide +kernel
theorem d_P_usesReviewedBelow_70 : decode b_P_usesReviewedBelow 70 = .ok (.goto (-53), 3) := by decide +kernel
theorem d_P_usesReviewedBelow_73 : decode b_P_usesReviewedBelow 73 = .ok (.iconst 0, 1) := by decide +kernel
theorem d_P_usesReviewedBelow_74 : decode b_P_usesReviewedBelow 74 = .ok (.ireturn, 1) := by decide +kernel
theorem d_P_usesFetchedUntold_0 : decode b_P_usesFetchedUntold 0 = .ok (.iconst 0, 1) := by decide +kernel
theorem d_P_usesFetchedUntold_1 : decode b_P_usesFetchedUntold 1 = .ok (.istore_n 2, 1) := by decide +kernel
theorem d_P_usesFetchedUntold_2 : decode b_P_usesFetchedUntold 2 = .ok (.iload_n 2, 1) := by decide +kernel
theorem d_P_usesFetchedUntold_3 : decode b_P_usesFetchedUntold 3 = .ok (.aload_n 0, 1) := by decide +kernel
theorem d_P_usesFetchedUntold_4 : decode b_P_usesFetchedUntold 4 = .ok (.getfield 19, 3) := by decide +kernel
theorem d_P_usesFetchedUntold_7 : decode b_P_usesFetchedUntold 7 = .ok (.getfield 69, 3) := by decide +kernel
theorem d_P_usesFetchedUntold_10 : decode b_P_usesFetchedUntold 10 = .ok (.getfield 176, 3) := by decide +kernel
theorem d_P_usesFetchedUntold_13 : decode b_P_usesFetchedUntold 13 = .ok (.iload_n 1, 1) := by decide +kernel
theorem d_P_usesFetchedUntold_14 : decode b_P_usesFetchedUntold 14 = .ok (.iaload, 1) := by decide +kernel
theorem d_P_usesFetchedUntold_15 : decode b_P_usesFetchedUntold 15 = .ok (.if_icmp .ge 31, 3) := by decide +kernel
theorem d_P_usesFetchedUntold_18 : decode b_P_usesFetchedUntold 18 = .ok (.aload_n 0, 1) := by decide +kernel
theorem d_P_usesFetchedUntold_19 : decode b_P_usesFetchedUntold 19 = .ok (.getfield 10, 3) := by decide +kernel
theorem d_P_usesFetchedUntold_22 : decode b_P_usesFetchedUntold 22 = .ok (.getfield 60, 3) := by decide +kernel
theorem d_P_usesFetchedUntold_25 : decode b_P_usesFetchedUntold 25 = .ok (.aload_n 0, 1) := by decide +kernel
theorem d_P_usesFetchedUntold_26 : decode b_P_usesFetchedUntold 26 = .ok (.getfield 19, 3) := by decide +kernel
theorem d_P_usesFetchedUntold_29 : decode b_P_usesFetchedUntold 29 = .ok (.iload_n 1, 1) := by decide +kernel
theorem d_P_usesFetchedUntold_30 : decode b_P_usesFetchedUntold 30 = .ok (.iload_n 2, 1) := by decide +kernel
theorem d_P_usesFetchedUntold_31 : decode b_P_usesFetchedUntold 31 = .ok (.invokevirtual 182, 3) := by decide +kernel
theorem d_P_usesFetchedUntold_34 : decode b_P_usesFetchedUntold 34 = .ok (.baload, 1) := by decide +kernel
theorem d_P_usesFetchedUntold_35 : decode b_P_usesFetchedUntold 35 = .ok (.ifCond .eq 5, 3) := by decide +kernel
theorem d_P_usesFetchedUntold_38 : decode b_P_usesFetchedUntold 38 = .ok (.iconst 1, 1) := by decide +kernel
theorem d_P_usesFetchedUntold_39 : decode b_P_usesFetchedUntold 39 = .ok (.ireturn, 1) := by decide +kernel
theorem d_P_usesFetchedUntold_40 : decode b_P_usesFetchedUntold 40 = .ok (.iinc 2 1, 3) := by decide +kernel
theorem d_P_usesFetchedUntold_43 : decode b_P_usesFetchedUntold 43 = .ok (.goto (-41), 3) := by decide +kernel
theorem d_P_usesFetchedUntold_46 : decode b_P_usesFetchedUntold 46 = .ok (.iconst 0, 1) := by decide +kernel
theorem d_P_usesFetchedUntold_47 : decode b_P_usesFetchedUntold 47 = .ok (.ireturn, 1) := by decide +kernel
theorem d_A_missingPlace_0 : decode b_A_missingPlace 0 = .ok (.iconst 0, 1) := by decide +kernel
theorem d_A_missingPlace_1 : decode b_A_missingPlace 1 = .ok (.istore_n 3, 1) := by decide +kernel
theorem d_A_missingPlace_2 : decode b_A_missingPlace 2 = .ok (.iconst 0, 1) := by decide +kernel
theorem d_A_missingPlace_3 : decode b_A_missingPlace 3 = .ok (.istore 4, 2) := by decide +kernel
theorem d_A_missingPlace_5 : decode b_A_missingPlace 5 = .ok (.iload 4, 2) := by decide +kernel
theorem d_A_missingPlace_7 : decode b_A_missingPlace 7 = .ok (.aload_n 0, 1) := by decide +kernel
theorem d_A_missingPlace_8 : decode b_A_missingPlace 8 = .ok (.getfield 35, 3) := by decide +kernel
theorem d_A_missingPlace_11 : decode b_A_missingPlace 11 = .ok (.getfield 55, 3) := by decide +kernel
theorem d_A_missingPlace_14 : decode b_A_missingPlace 14 = .ok (.iload_n 1, 1) := by decide +kernel
theorem d_A_missingPlace_15 : decode b_A_missingPlace 15 = .ok (.iaload, 1) := by decide +kernel
theorem d_A_missingPlace_16 : decode b_A_missingPlace 16 = .ok (.if_icmp .ge 31, 3) := by decide +kernel
theorem d_A_missingPlace_19 : decode b_A_missingPlace 19 = .ok (.aload_n 0, 1) := by decide +kernel
theorem d_A_missingPlace_20 : decode b_A_missingPlace 20 = .ok (.iload_n 1, 1) := by decide +kernel
theorem d_A_missingPlace_21 : decode b_A_missingPlace 21 = .ok (.iload 4, 2) := by decide +kernel
theorem d_A_missingPlace_23 : decode b_A_missingPlace 23 = .ok (.invokevirtual 62, 3) := by decide +kernel
theorem d_A_missingPlace_26 : decode b_A_missingPlace 26 = .ok (.iconst (-1), 1) := by decide +kernel
theorem d_A_missingPlace_27 : decode b_A_missingPlace 27 = .ok (.if_icmp .ne 14, 3) := by decide +kernel
theorem d_A_missingPlace_30 : decode b_A_missingPlace 30 = .ok (.iload_n 3, 1) := by decide +kernel
theorem d_A_missingPlace_31 : decode b_A_missingPlace 31 = .ok (.iload_n 2, 1) := by decide +kernel
theorem d_A_missingPlace_32 : decode b_A_missingPlace 32 = .ok (.if_icmp .ne 6, 3) := by decide +kernel
theorem d_A_missingPlace_35 : decode b_A_missingPlace 35 = .ok (.iload 4, 2) := by decide +kernel
theorem d_A_missingPlace_37 : decode b_A_missingPlace 37 = .ok (.ireturn, 1) := by decide +kernel
theorem d_A_missingPlace_38 : decode b_A_missingPlace 38 = .ok (.iinc 3 1, 3) := by decide +kernel
theorem d_A_missingPlace_41 : decode b_A_missingPlace 41 = .ok (.iinc 4 1, 3) := by decide +kernel
theorem d_A_missingPlace_44 : decode b_A_missingPlace 44 = .ok (.goto (-39), 3) := by decide +kernel
theorem d_A_missingPlace_47 : decode b_A_missingPlace 47 = .ok (.iconst (-1), 1) := by decide +kernel
theorem d_A_missingPlace_48 : decode b_A_missingPlace 48 = .ok (.ireturn, 1) := by decide +kernel
theorem d_A_needsLaterBy_0 : decode b_A_needsLaterBy 0 = .ok (.iconst 0, 1) := by decide +kernel
theorem d_A_needsLaterBy_1 : decode b_A_needsLaterBy 1 = .ok (.istore_n 3, 1) := by decide +kernel
theorem d_A_needsLaterBy_2 : decode b_A_needsLaterBy 2 = .ok (.iload_n 3, 1) := by decide +kernel
theorem d_A_needsLaterBy_3 : decode b_A_needsLaterBy 3 = .ok (.aload_n 0, 1) := by decide +kernel
theorem d_A_needsLaterBy_4 : decode b_A_needsLaterBy 4 = .ok (.getfield 35, 3) := by decide +kernel
theorem d_A_needsLaterBy_7 : decode b_A_needsLaterBy 7 = .ok (.getfield 55, 3) := by decide +kernel
theorem d_A_needsLaterBy_10 : decode b_A_needsLaterBy 10 = .ok (.iload_n 1, 1) := by decide +kernel
theorem d_A_needsLaterBy_11 : decode b_A_needsLaterBy 11 = .ok (.iaload, 1) := by decide +kernel
theorem d_A_needsLaterBy_12 : decode b_A_needsLaterBy 12 = .ok (.if_icmp .ge 43, 3) := by decide +kernel
theorem d_A_needsLaterBy_15 : decode b_A_needsLaterBy 15 = .ok (.aload_n 0, 1) := by decide +kernel
theorem d_A_needsLaterBy_16 : decode b_A_needsLaterBy 16 = .ok (.iload_n 1, 1) := by decide +kernel
theorem d_A_needsLaterBy_17 : decode b_A_needsLaterBy 17 = .ok (.iload_n 3, 1) := by decide +kernel
theorem d_A_needsLaterBy_18 : decode b_A_needsLaterBy 18 = .ok (.invokevirtual 62, 3) := by decide +kernel
theorem d_A_needsLaterBy_21 : decode b_A_needsLaterBy 21 = .ok (.istore 4, 2) := by decide +kernel
theorem d_A_needsLaterBy_23 : decode b_A_needsLaterBy 23 = .ok (.iload 4, 2) := by decide +kernel
theorem d_A_needsLaterBy_25 : decode b_A_needsLaterBy 25 = .ok (.iconst (-1), 1) := by decide +kernel
theorem d_A_needsLaterBy_26 : decode b_A_needsLaterBy 26 = .ok (.if_icmp .eq 23, 3) := by decide +kernel
theorem d_A_needsLaterBy_29 : decode b_A_needsLaterBy 29 = .ok (.aload_n 0, 1) := by decide +kernel
theorem d_A_needsLaterBy_30 : decode b_A_needsLaterBy 30 = .ok (.getfield 25, 3) := by decide +kernel
theorem d_A_needsLaterBy_33 : decode b_A_needsLaterBy 33 = .ok (.iload 4, 2) := by decide +kernel
theorem d_A_needsLaterBy_35 : decode b_A_needsLaterBy 35 = .ok (.iaload, 1) := by decide +kernel
theorem d_A_needsLaterBy_36 : decode b_A_needsLaterBy 36 = .ok (.aload_n 0, 1) := by decide +kernel
theorem d_A_needsLaterBy_37 : decode b_A_needsLaterBy 37 = .ok (.getfield 25, 3) := by decide +kernel
theorem d_A_needsLaterBy_40 : decode b_A_needsLaterBy 40 = .ok (.iload_n 1, 1) := by decide +kernel
theorem d_A_needsLaterBy_41 : decode b_A_needsLaterBy 41 = .ok (.iaload, 1) := by decide +kernel
theorem d_A_needsLaterBy_42 : decode b_A_needsLaterBy 42 = .ok (.isub, 1) := by decide +kernel
theorem d_A_needsLaterBy_43 : decode b_A_needsLaterBy 43 = .ok (.iload_n 2, 1) := by decide +kernel
theorem d_A_needsLaterBy_44 : decode b_A_needsLaterBy 44 = .ok (.if_icmp .le 5, 3) := by decide +kernel
theorem d_A_needsLaterBy_47 : decode b_A_needsLaterBy 47 = .ok (.iconst 1, 1) := by decide +kernel
theorem d_A_needsLaterBy_48 : decode b_A_needsLaterBy 48 = .ok (.ireturn, 1) := by decide +kernel
theorem d_A_needsLaterBy_49 : decode b_A_needsLaterBy 49 = .ok (.iinc 3 1, 3) := by decide +kernel
theorem d_A_needsLaterBy_52 : decode b_A_needsLaterBy 52 = .ok (.goto (-50), 3) := by decide +kernel
theorem d_A_needsLaterBy_55 : decode b_A_needsLaterBy 55 = .ok (.iconst 0, 1) := by decide +kernel
theorem d_A_needsLaterBy_56 : decode b_A_needsLaterBy 56 = .ok (.ireturn, 1) := by decide +kernel
theorem d_W_sameInOrder_0 : decode b_W_sameInOrder 0 = .ok (.aload_n 0, 1) := by decide +kernel
theorem d_W_sameInOrder_1 : decode b_W_sameInOrder 1 = .ok (.getfield 9, 3) := by decide +kernel
theorem d_W_sameInOrder_4 : decode b_W_sameInOrder 4 = .ok (.iload_n 1, 1) := by decide +kernel
theorem d_W_sameInOrder_5 : decode b_W_sameInOrder 5 = .ok (.iaload, 1) := by decide +kernel
theorem d_W_sameInOrder_6 : decode b_W_sameInOrder 6 = .ok (.aload_n 0, 1) := by decide +kernel
theorem d_W_sameInOrder_7 : decode b_W_sameInOrder 7 = .ok (.getfield 9, 3) := by decide +kernel
theorem d_W_sameInOrder_10 : decode b_W_sameInOrder 10 = .ok (.iload_n 2, 1) := by decide +kernel
theorem d_W_sameInOrder_11 : decode b_W_sameInOrder 11 = .ok (.iaload, 1) := by decide +kernel
theorem d_W_sameInOrder_12 : decode b_W_sameInOrder 12 = .ok (.if_icmp .eq 5, 3) := by decide +kernel
theorem d_W_sameInOrder_15 : decode b_W_sameInOrder 15 = .ok (.iconst 0, 1) := by decide +kernel
theorem d_W_sameInOrder_16 : decode b_W_sameInOrder 16 = .ok (.ireturn, 1) := by decide +kernel
theorem d_W_sameInOrder_17 : decode b_W_sameInOrder 17 = .ok (.iconst 0, 1) := by decide +kernel
theorem d_W_sameInOrder_18 : decode b_W_sameInOrder 18 = .ok (.istore_n 3, 1) := by decide +kernel
theorem d_W_sameInOrder_19 : decode b_W_sameInOrder 19 = .ok (.iload_n 3, 1) := by decide +kernel
theorem d_W_sameInOrder_20 : decode b_W_sameInOrder 20 = .ok (.aload_n 0, 1) := by decide +kernel
theorem d_W_sameInOrder_21 : decode b_W_sameInOrder 21 = .ok (.getfield 9, 3) := by decide +kernel
theorem d_W_sameInOrder_24 : decode b_W_sameInOrder 24 = .ok (.iload_n 1, 1) := by decide +kernel
theorem d_W_sameInOrder_25 : decode b_W_sameInOrder 25 = .ok (.iaload, 1) := by decide +kernel
theorem d_W_sameInOrder_26 : decode b_W_sameInOrder 26 = .ok (.if_icmp .ge 27, 3) := by decide +kernel
theorem d_W_sameInOrder_29 : decode b_W_sameInOrder 29 = .ok (.aload_n 0, 1) := by decide +kernel
theorem d_W_sameInOrder_30 : decode b_W_sameInOrder 30 = .ok (.iload_n 1, 1) := by decide +kernel
theorem d_W_sameInOrder_31 : decode b_W_sameInOrder 31 = .ok (.iload_n 3, 1) := by decide +kernel
theorem d_W_sameInOrder_32 : decode b_W_sameInOrder 32 = .ok (.invokevirtual 23, 3) := by decide +kernel
theorem d_W_sameInOrder_35 : decode b_W_sameInOrder 35 = .ok (.aload_n 0, 1) := by decide +kernel
theorem d_W_sameInOrder_36 : decode b_W_sameInOrder 36 = .ok (.iload_n 2, 1) := by decide +kernel
theorem d_W_sameInOrder_37 : decode b_W_sameInOrder 37 = .ok (.iload_n 3, 1) := by decide +kernel
theorem d_W_sameInOrder_38 : decode b_W_sameInOrder 38 = .ok (.invokevirtual 23, 3) := by decide +kernel
theorem d_W_sameInOrder_41 : decode b_W_sameInOrder 41 = .ok (.lcmp, 1) := by decide +kernel
theorem d_W_sameInOrder_42 : decode b_W_sameInOrder 42 = .ok (.ifCond .eq 5, 3) := by decide +kernel
theorem d_W_sameInOrder_45 : decode b_W_sameInOrder 45 = .ok (.iconst 0, 1) := by decide +kernel
theorem d_W_sameInOrder_46 : decode b_W_sameInOrder 46 = .ok (.ireturn, 1) := by decide +kernel
theorem d_W_sameInOrder_47 : decode b_W_sameInOrder 47 = .ok (.iinc 3 1, 3) := by decide +kernel
theorem d_W_sameInOrder_50 : decode b_W_sameInOrder 50 = .ok (.goto (-31), 3) := by decide +kernel
theorem d_W_sameInOrder_53 : decode b_W_sameInOrder 53 = .ok (.iconst 1, 1) := by decide +kernel
theorem d_W_sameInOrder_54 : decode b_W_sameInOrder 54 = .ok (.ireturn, 1) := by decide +kernel
theorem d_A_clashing_0 : decode b_A_clashing 0 = .ok (.aload_n 0, 1) := by decide +kernel
theorem d_A_clashing_1 : decode b_A_clashing 1 = .ok (.getfield 9, 3) := by decide +kernel
theorem d_A_clashing_4 : decode b_A_clashing 4 = .ok (.iload_n 1, 1) := by decide +kernel
theorem d_A_clashing_5 : decode b_A_clashing 5 = .ok (.laload, 1) := by decide +kernel
theorem d_A_clashing_6 : decode b_A_clashing 6 = .ok (.aload_n 0, 1) := by decide +kernel
theorem d_A_clashing_7 : decode b_A_clashing 7 = .ok (.getfield 9, 3) := by decide +kernel
theorem d_A_clashing_10 : decode b_A_clashing 10 = .ok (.iload_n 2, 1) := by decide +kernel
theorem d_A_clashing_11 : decode b_A_clashing 11 = .ok (.laload, 1) := by decide +kernel
theorem d_A_clashing_12 : decode b_A_clashing 12 = .ok (.lcmp, 1) := by decide +kernel
theorem d_A_clashing_13 : decode b_A_clashing 13 = .ok (.ifCond .eq 5, 3) := by decide +kernel
theorem d_A_clashing_16 : decode b_A_clashing 16 = .ok (.iconst 0, 1) := by decide +kernel
theorem d_A_clashing_17 : decode b_A_clashing 17 = .ok (.ireturn, 1) := by decide +kernel
theorem d_A_clashing_18 : decode b_A_clashing 18 = .ok (.aload_n 0, 1) := by decide +kernel
theorem d_A_clashing_19 : decode b_A_clashing 19 = .ok (.getfield 15, 3) := by decide +kernel
theorem d_A_clashing_22 : decode b_A_clashing 22 = .ok (.iload_n 1, 1) := by decide +kernel
theorem d_A_clashing_23 : decode b_A_clashing 23 = .ok (.iaload, 1) := by decide +kernel
theorem d_A_clashing_24 : decode b_A_clashing 24 = .ok (.aload_n 0, 1) := by decide +kernel
theorem d_A_clashing_25 : decode b_A_clashing 25 = .ok (.getfield 15, 3) := by decide +kernel
theorem d_A_clashing_28 : decode b_A_clashing 28 = .ok (.iload_n 2, 1) := by decide +kernel
theorem d_A_clashing_29 : decode b_A_clashing 29 = .ok (.iaload, 1) := by decide +kernel
theorem d_A_clashing_30 : decode b_A_clashing 30 = .ok (.if_icmp .ne 46, 3) := by decide +kernel
theorem d_A_clashing_33 : decode b_A_clashing 33 = .ok (.aload_n 0, 1) := by decide +kernel
theorem d_A_clashing_34 : decode b_A_clashing 34 = .ok (.getfield 19, 3) := by decide +kernel
theorem d_A_clashing_37 : decode b_A_clashing 37 = .ok (.iload_n 1, 1) := by decide +kernel
theorem d_A_clashing_38 : decode b_A_clashing 38 = .ok (.iaload, 1) := by decide +kernel
theorem d_A_clashing_39 : decode b_A_clashing 39 = .ok (.aload_n 0, 1) := by decide +kernel
theorem d_A_clashing_40 : decode b_A_clashing 40 = .ok (.getfield 19, 3) := by decide +kernel
theorem d_A_clashing_43 : decode b_A_clashing 43 = .ok (.iload_n 2, 1) := by decide +kernel
theorem d_A_clashing_44 : decode b_A_clashing 44 = .ok (.iaload, 1) := by decide +kernel
theorem d_A_clashing_45 : decode b_A_clashing 45 = .ok (.if_icmp .ne 31, 3) := by decide +kernel
theorem d_A_clashing_48 : decode b_A_clashing 48 = .ok (.aload_n 0, 1) := by decide +kernel
theorem d_A_clashing_49 : decode b_A_clashing 49 = .ok (.getfield 31, 3) := by decide +kernel
theorem d_A_clashing_52 : decode b_A_clashing 52 = .ok (.iload_n 1, 1) := by decide +kernel
theorem d_A_clashing_53 : decode b_A_clashing 53 = .ok (.iload_n 2, 1) := by decide +kernel
theorem d_A_clashing_54 : decode b_A_clashing 54 = .ok (.invokevirtual 78, 3) := by decide +kernel
theorem d_A_clashing_57 : decode b_A_clashing 57 = .ok (.ifCond .eq 19, 3) := by decide +kernel
theorem d_A_clashing_60 : decode b_A_clashing 60 = .ok (.aload_n 0, 1) := by decide +kernel
theorem d_A_clashing_61 : decode b_A_clashing 61 = .ok (.getfield 35, 3) := by decide +kernel
theorem d_A_clashing_64 : decode b_A_clashing 64 = .ok (.iload_n 1, 1) := by decide +kernel
theorem d_A_clashing_65 : decode b_A_clashing 65 = .ok (.iload_n 2, 1) := by decide +kernel
theorem d_A_clashing_66 : decode b_A_clashing 66 = .ok (.invokevirtual 78, 3) := by decide +kernel
theorem d_A_clashing_69 : decode b_A_clashing 69 = .ok (.ifCond .eq 7, 3) := by decide +kernel
theorem d_A_clashing_72 : decode b_A_clashing 72 = .ok (.iconst 1, 1) := by decide +kernel
theorem d_A_clashing_73 : decode b_A_clashing 73 = .ok (.goto 4, 3) := by decide +kernel
theorem d_A_clashing_76 : decode b_A_clashing 76 = .ok (.iconst 0, 1) := by decide +kernel
theorem d_A_clashing_77 : decode b_A_clashing 77 = .ok (.istore_n 3, 1) := by decide +kernel
theorem d_A_clashing_78 : decode b_A_clashing 78 = .ok (.iload_n 3, 1) := by decide +kernel
theorem d_A_clashing_79 : decode b_A_clashing 79 = .ok (.ifCond .ne 7, 3) := by decide +kernel
theorem d_A_clashing_82 : decode b_A_clashing 82 = .ok (.iconst 1, 1) := by decide +kernel
theorem d_A_clashing_83 : decode b_A_clashing 83 = .ok (.goto 4, 3) := by decide +kernel
theorem d_A_clashing_86 : decode b_A_clashing 86 = .ok (.iconst 0, 1) := by decide +kernel
theorem d_A_clashing_87 : decode b_A_clashing 87 = .ok (.ireturn, 1) := by decide +kernel
theorem d_A_clashesWithAny_0 : decode b_A_clashesWithAny 0 = .ok (.iconst 0, 1) := by decide +kernel
theorem d_A_clashesWithAny_1 : decode b_A_clashesWithAny 1 = .ok (.istore_n 2, 1) := by decide +kernel
theorem d_A_clashesWithAny_2 : decode b_A_clashesWithAny 2 = .ok (.iload_n 2, 1) := by decide +kernel
theorem d_A_clashesWithAny_3 : decode b_A_clashesWithAny 3 = .ok (.aload_n 0, 1) := by decide +kernel
theorem d_A_clashesWithAny_4 : decode b_A_clashesWithAny 4 = .ok (.getfield 47, 3) := by decide +kernel
theorem d_A_clashesWithAny_7 : decode b_A_clashesWithAny 7 = .ok (.if_icmp .ge 20, 3) := by decide +kernel
theorem d_A_clashesWithAny_10 : decode b_A_clashesWithAny 10 = .ok (.aload_n 0, 1) := by decide +kernel
theorem d_A_clashesWithAny_11 : decode b_A_clashesWithAny 11 = .ok (.iload_n 1, 1) := by decide +kernel
theorem d_A_clashesWithAny_12 : decode b_A_clashesWithAny 12 = .ok (.iload_n 2, 1) := by decide +kernel
theorem d_A_clashesWithAny_13 : decode b_A_clashesWithAny 13 = .ok (.invokevirtual 74, 3) := by decide +kernel
theorem d_A_clashesWithAny_16 : decode b_A_clashesWithAny 16 = .ok (.ifCond .eq 5, 3) := by decide +kernel
theorem d_A_clashesWithAny_19 : decode b_A_clashesWithAny 19 = .ok (.iconst 1, 1) := by decide +kernel
theorem d_A_clashesWithAny_20 : decode b_A_clashesWithAny 20 = .ok (.ireturn, 1) := by decide +kernel
theorem d_A_clashesWithAny_21 : decode b_A_clashesWithAny 21 = .ok (.iinc 2 1, 3) := by decide +kernel
theorem d_A_clashesWithAny_24 : decode b_A_clashesWithAny 24 = .ok (.goto (-22), 3) := by decide +kernel
theorem d_A_clashesWithAny_27 : decode b_A_clashesWithAny 27 = .ok (.iconst 0, 1) := by decide +kernel
theorem d_A_clashesWithAny_28 : decode b_A_clashesWithAny 28 = .ok (.ireturn, 1) := by decide +kernel
theorem d_A_restsOnNothing_0 : decode b_A_restsOnNothing 0 = .ok (.aload_n 0, 1) := by decide +kernel
theorem d_A_restsOnNothing_1 : decode b_A_restsOnNothing 1 = .ok (.getfield 31, 3) := by decide +kernel
theorem d_A_restsOnNothing_4 : decode b_A_restsOnNothing 4 = .ok (.getfield 55, 3) := by decide +kernel
theorem d_A_restsOnNothing_7 : decode b_A_restsOnNothing 7 = .ok (.iload_n 1, 1) := by decide +kernel
theorem d_A_restsOnNothing_8 : decode b_A_restsOnNothing 8 = .ok (.iaload, 1) := by decide +kernel
theorem d_A_restsOnNothing_9 : decode b_A_restsOnNothing 9 = .ok (.ifCond .ne 19, 3) := by decide +kernel
theorem d_A_restsOnNothing_12 : decode b_A_restsOnNothing 12 = .ok (.aload_n 0, 1) := by decide +kernel
theorem d_A_restsOnNothing_13 : decode b_A_restsOnNothing 13 = .ok (.getfield 35, 3) := by decide +kernel
theorem d_A_restsOnNothing_16 : decode b_A_restsOnNothing 16 = .ok (.getfield 55, 3) := by decide +kernel
theorem d_A_restsOnNothing_19 : decode b_A_restsOnNothing 19 = .ok (.iload_n 1, 1) := by decide +kernel
theorem d_A_restsOnNothing_20 : decode b_A_restsOnNothing 20 = .ok (.iaload, 1) := by decide +kernel
theorem d_A_restsOnNothing_21 : decode b_A_restsOnNothing 21 = .ok (.ifCond .ne 7, 3) := by decide +kernel
theorem d_A_restsOnNothing_24 : decode b_A_restsOnNothing 24 = .ok (.iconst 1, 1) := by decide +kernel
theorem d_A_restsOnNothing_25 : decode b_A_restsOnNothing 25 = .ok (.goto 4, 3) := by decide +kernel
theorem d_A_restsOnNothing_28 : decode b_A_restsOnNothing 28 = .ok (.iconst 0, 1) := by decide +kernel
theorem d_A_restsOnNothing_29 : decode b_A_restsOnNothing 29 = .ok (.ireturn, 1) := by decide +kernel
theorem d_P_isBroken_0 : decode b_P_isBroken 0 = .ok (.aload_n 0, 1) := by decide +kernel
theorem d_P_isBroken_1 : decode b_P_isBroken 1 = .ok (.getfield 26, 3) := by decide +kernel
theorem d_P_isBroken_4 : decode b_P_isBroken 4 = .ok (.getfield 149, 3) := by decide +kernel
theorem d_P_isBroken_7 : decode b_P_isBroken 7 = .ok (.iload_n 1, 1) := by decide +kernel
theorem d_P_isBroken_8 : decode b_P_isBroken 8 = .ok (.iaload, 1) := by decide +kernel
theorem d_P_isBroken_9 : decode b_P_isBroken 9 = .ok (.istore_n 3, 1) := by decide +kernel
theorem d_P_isBroken_10 : decode b_P_isBroken 10 = .ok (.aload_n 0, 1) := by decide +kernel
theorem d_P_isBroken_11 : decode b_P_isBroken 11 = .ok (.getfield 26, 3) := by decide +kernel
theorem d_P_isBroken_14 : decode b_P_isBroken 14 = .ok (.getfield 152, 3) := by decide +kernel
theorem d_P_isBroken_17 : decode b_P_isBroken 17 = .ok (.iload_n 1, 1) := by decide +kernel
theorem d_P_isBroken_18 : decode b_P_isBroken 18 = .ok (.iaload, 1) := by decide +kernel
theorem d_P_isBroken_19 : decode b_P_isBroken 19 = .ok (.tableswitch 193 0 9 #[53, 75, 97, 104, 111, 117, 136, 146, 155, 164], 53) := by decide +kernel
theorem d_P_isBroken_72 : decode b_P_isBroken 72 = .ok (.iload_n 3, 1) := by decide +kernel
theorem d_P_isBroken_73 : decode b_P_isBroken 73 = .ok (.aload_n 0, 1) := by decide +kernel
theorem d_P_isBroken_74 : decode b_P_isBroken 74 = .ok (.getfield 19, 3) := by decide +kernel
theorem d_P_isBroken_77 : decode b_P_isBroken 77 = .ok (.getfield 127, 3) := by decide +kernel
theorem d_P_isBroken_80 : decode b_P_isBroken 80 = .ok (.iload_n 2, 1) := by decide +kernel
theorem d_P_isBroken_81 : decode b_P_isBroken 81 = .ok (.iaload, 1) := by decide +kernel
theorem d_P_isBroken_82 : decode b_P_isBroken 82 = .ok (.invokestatic 155, 3) := by decide +kernel
theorem d_P_isBroken_85 : decode b_P_isBroken 85 = .ok (.ifCond .ne 7, 3) := by decide +kernel
theorem d_P_isBroken_88 : decode b_P_isBroken 88 = .ok (.iconst 1, 1) := by decide +kernel
theorem d_P_isBroken_89 : decode b_P_isBroken 89 = .ok (.goto 4, 3) := by decide +kernel
theorem d_P_isBroken_92 : decode b_P_isBroken 92 = .ok (.iconst 0, 1) := by decide +kernel
theorem d_P_isBroken_93 : decode b_P_isBroken 93 = .ok (.ireturn, 1) := by decide +kernel
theorem d_P_isBroken_94 : decode b_P_isBroken 94 = .ok (.iload_n 3, 1) := by decide +kernel
theorem d_P_isBroken_95 : decode b_P_isBroken 95 = .ok (.aload_n 0, 1) := by decide +kernel
theorem d_P_isBroken_96 : decode b_P_isBroken 96 = .ok (.getfield 19, 3) := by decide +kernel
theorem d_P_isBroken_99 : decode b_P_isBroken 99 = .ok (.getfield 130, 3) := by decide +kernel
theorem d_P_isBroken_102 : decode b_P_isBroken 102 = .ok (.iload_n 2, 1) := by decide +kernel
theorem d_P_isBroken_103 : decode b_P_isBroken 103 = .ok (.iaload, 1) := by decide +kernel
theorem d_P_isBroken_104 : decode b_P_isBroken 104 = .ok (.invokestatic 155, 3) := by decide +kernel
theorem d_P_isBroken_107 : decode b_P_isBroken 107 = .ok (.ifCond .ne 7, 3) := by decide +kernel
theorem d_P_isBroken_110 : decode b_P_isBroken 110 = .ok (.iconst 1, 1) := by decide +kernel
theorem d_P_isBroken_111 : decode b_P_isBroken 111 = .ok (.goto 4, 3) := by decide +kernel
theorem d_P_isBroken_114 : decode b_P_isBroken 114 = .ok (.iconst 0, 1) := by decide +kernel
theorem d_P_isBroken_115 : decode b_P_isBroken 115 = .ok (.ireturn, 1) := by decide +kernel
theorem d_P_isBroken_116 : decode b_P_isBroken 116 = .ok (.aload_n 0, 1) := by decide +kernel
theorem d_P_isBroken_117 : decode b_P_isBroken 117 = .ok (.iload_n 2, 1) := by decide +kernel
theorem d_P_isBroken_118 : decode b_P_isBroken 118 = .ok (.iload_n 3, 1) := by decide +kernel
theorem d_P_isBroken_119 : decode b_P_isBroken 119 = .ok (.invokevirtual 158, 3) := by decide +kernel
theorem d_P_isBroken_122 : decode b_P_isBroken 122 = .ok (.ireturn, 1) := by decide +kernel
theorem d_P_isBroken_123 : decode b_P_isBroken 123 = .ok (.aload_n 0, 1) := by decide +kernel
theorem d_P_isBroken_124 : decode b_P_isBroken 124 = .ok (.iload_n 2, 1) := by decide +kernel
theorem d_P_isBroken_125 : decode b_P_isBroken 125 = .ok (.iload_n 3, 1) := by decide +kernel
theorem d_P_isBroken_126 : decode b_P_isBroken 126 = .ok (.invokevirtual 161, 3) := by decide +kernel
theorem d_P_isBroken_129 : decode b_P_isBroken 129 = .ok (.ireturn, 1) := by decide +kernel
theorem d_P_isBroken_130 : decode b_P_isBroken 130 = .ok (.aload_n 0, 1) := by decide +kernel
theorem d_P_isBroken_131 : decode b_P_isBroken 131 = .ok (.iload_n 2, 1) := by decide +kernel
theorem d_P_isBroken_132 : decode b_P_isBroken 132 = .ok (.invokevirtual 164, 3) := by decide +kernel
theorem d_P_isBroken_135 : decode b_P_isBroken 135 = .ok (.ireturn, 1) := by decide +kernel
theorem d_P_isBroken_136 : decode b_P_isBroken 136 = .ok (.aload_n 0, 1) := by decide +kernel
theorem d_P_isBroken_137 : decode b_P_isBroken 137 = .ok (.getfield 19, 3) := by decide +kernel
theorem d_P_isBroken_140 : decode b_P_isBroken 140 = .ok (.iload_n 2, 1) := by decide +kernel
theorem d_P_isBroken_141 : decode b_P_isBroken 141 = .ok (.iconst 0, 1) := by decide +kernel
theorem d_P_isBroken_142 : decode b_P_isBroken 142 = .ok (.invokevirtual 112, 3) := by decide +kernel
theorem d_P_isBroken_145 : decode b_P_isBroken 145 = .ok (.iconst (-1), 1) := by decide +kernel
theorem d_P_isBroken_146 : decode b_P_isBroken 146 = .ok (.if_icmp .eq 7, 3) := by decide +kernel
theorem d_P_isBroken_149 : decode b_P_isBroken 149 = .ok (.iconst 1, 1) := by decide +kernel
theorem d_P_isBroken_150 : decode b_P_isBroken 150 = .ok (.goto 4, 3) := by decide +kernel
theorem d_P_isBroken_153 : decode b_P_isBroken 153 = .ok (.iconst 0, 1) := by decide +kernel
theorem d_P_isBroken_154 : decode b_P_isBroken 154 = .ok (.ireturn, 1) := by decide +kernel
theorem d_P_isBroken_155 : decode b_P_isBroken 155 = .ok (.aload_n 0, 1) := by decide +kernel
theorem d_P_isBroken_156 : decode b_P_isBroken 156 = .ok (.getfield 19, 3) := by decide +kernel
theorem d_P_isBroken_159 : decode b_P_isBroken 159 = .ok (.iload_n 2, 1) := by decide +kernel
theorem d_P_isBroken_160 : decode b_P_isBroken 160 = .ok (.iload_n 3, 1) := by decide +kernel
theorem d_P_isBroken_161 : decode b_P_isBroken 161 = .ok (.invokevirtual 167, 3) := by decide +kernel
theorem d_P_isBroken_164 : decode b_P_isBroken 164 = .ok (.ireturn, 1) := by decide +kernel
theorem d_P_isBroken_165 : decode b_P_isBroken 165 = .ok (.aload_n 0, 1) := by decide +kernel
theorem d_P_isBroken_166 : decode b_P_isBroken 166 = .ok (.getfield 19, 3) := by decide +kernel
theorem d_P_isBroken_169 : decode b_P_isBroken 169 = .ok (.iload_n 2, 1) := by decide +kernel
theorem d_P_isBroken_170 : decode b_P_isBroken 170 = .ok (.invokevirtual 170, 3) := by decide +kernel
theorem d_P_isBroken_173 : decode b_P_isBroken 173 = .ok (.ireturn, 1) := by decide +kernel
theorem d_P_isBroken_174 : decode b_P_isBroken 174 = .ok (.aload_n 0, 1) := by decide +kernel
theorem d_P_isBroken_175 : decode b_P_isBroken 175 = .ok (.getfield 19, 3) := by decide +kernel
theorem d_P_isBroken_178 : decode b_P_isBroken 178 = .ok (.iload_n 2, 1) := by decide +kernel
theorem d_P_isBroken_179 : decode b_P_isBroken 179 = .ok (.invokevirtual 173, 3) := by decide +kernel
theorem d_P_isBroken_182 : decode b_P_isBroken 182 = .ok (.ireturn, 1) := by decide +kernel
theorem d_P_isBroken_183 : decode b_P_isBroken 183 = .ok (.aload_n 0, 1) := by decide +kernel
theorem d_P_isBroken_184 : decode b_P_isBroken 184 = .ok (.getfield 40, 3) := by decide +kernel
theorem d_P_isBroken_187 : decode b_P_isBroken 187 = .ok (.aload_n 0, 1) := by decide +kernel
theorem d_P_isBroken_188 : decode b_P_isBroken 188 = .ok (.getfield 19, 3) := by decide +kernel
theorem d_P_isBroken_191 : decode b_P_isBroken 191 = .ok (.iload_n 2, 1) := by decide +kernel
theorem d_P_isBroken_192 : decode b_P_isBroken 192 = .ok (.invokevirtual 89, 3) := by decide +kernel
theorem d_P_isBroken_195 : decode b_P_isBroken 195 = .ok (.aload_n 0, 1) := by decide +kernel
theorem d_P_isBroken_196 : decode b_P_isBroken 196 = .ok (.getfield 40, 3) := by decide +kernel
theorem d_P_isBroken_199 : decode b_P_isBroken 199 = .ok (.getfield 93, 3) := by decide +kernel
theorem d_P_isBroken_202 : decode b_P_isBroken 202 = .ok (.iload_n 3, 1) := by decide +kernel
theorem d_P_isBroken_203 : decode b_P_isBroken 203 = .ok (.if_icmp .le 7, 3) := by decide +kernel
theorem d_P_isBroken_206 : decode b_P_isBroken 206 = .ok (.iconst 1, 1) := by decide +kernel
theorem d_P_isBroken_207 : decode b_P_isBroken 207 = .ok (.goto 4, 3) := by decide +kernel
theorem d_P_isBroken_210 : decode b_P_isBroken 210 = .ok (.iconst 0, 1) := by decide +kernel
theorem d_P_isBroken_211 : decode b_P_isBroken 211 = .ok (.ireturn, 1) := by decide +kernel
theorem d_P_isBroken_212 : decode b_P_isBroken 212 = .ok (.iconst 0, 1) := by decide +kernel
theorem d_P_isBroken_213 : decode b_P_isBroken 213 = .ok (.ireturn, 1) := by decide +kernel
theorem d_P_firstBrokenBy_0 : decode b_P_firstBrokenBy 0 = .ok (.iconst 0, 1) := by decide +kernel
theorem d_P_firstBrokenBy_1 : decode b_P_firstBrokenBy 1 = .ok (.istore_n 2, 1) := by decide +kernel
theorem d_P_firstBrokenBy_2 : decode b_P_firstBrokenBy 2 = .ok (.iload_n 2, 1) := by decide +kernel
theorem d_P_firstBrokenBy_3 : decode b_P_firstBrokenBy 3 = .ok (.aload_n 0, 1) := by decide +kernel
theorem d_P_firstBrokenBy_4 : decode b_P_firstBrokenBy 4 = .ok (.getfield 26, 3) := by decide +kernel
theorem d_P_firstBrokenBy_7 : decode b_P_firstBrokenBy 7 = .ok (.getfield 148, 3) := by decide +kernel
theorem d_P_firstBrokenBy_10 : decode b_P_firstBrokenBy 10 = .ok (.if_icmp .ge 20, 3) := by decide +kernel
theorem d_P_firstBrokenBy_13 : decode b_P_firstBrokenBy 13 = .ok (.aload_n 0, 1) := by decide +kernel
theorem d_P_firstBrokenBy_14 : decode b_P_firstBrokenBy 14 = .ok (.iload_n 2, 1) := by decide +kernel
theorem d_P_firstBrokenBy_15 : decode b_P_firstBrokenBy 15 = .ok (.iload_n 1, 1) := by decide +kernel
theorem d_P_firstBrokenBy_16 : decode b_P_firstBrokenBy 16 = .ok (.invokevirtual 105, 3) := by decide +kernel
theorem d_P_firstBrokenBy_19 : decode b_P_firstBrokenBy 19 = .ok (.ifCond .eq 5, 3) := by decide +kernel
theorem d_P_firstBrokenBy_22 : decode b_P_firstBrokenBy 22 = .ok (.iload_n 2, 1) := by decide +kernel
theorem d_P_firstBrokenBy_23 : decode b_P_firstBrokenBy 23 = .ok (.ireturn, 1) := by decide +kernel
theorem d_P_firstBrokenBy_24 : decode b_P_firstBrokenBy 24 = .ok (.iinc 2 1, 3) := by decide +kernel
theorem d_P_firstBrokenBy_27 : decode b_P_firstBrokenBy 27 = .ok (.goto (-25), 3) := by decide +kernel
theorem d_P_firstBrokenBy_30 : decode b_P_firstBrokenBy 30 = .ok (.iconst (-1), 1) := by decide +kernel
theorem d_P_firstBrokenBy_31 : decode b_P_firstBrokenBy 31 = .ok (.ireturn, 1) := by decide +kernel
theorem d_P_verdict_0 : decode b_P_verdict 0 = .ok (.aload_n 0, 1) := by decide +kernel
theorem d_P_verdict_1 : decode b_P_verdict 1 = .ok (.getfield 19, 3) := by decide +kernel
theorem d_P_verdict_4 : decode b_P_verdict 4 = .ok (.iload_n 1, 1) := by decide +kernel
theorem d_P_verdict_5 : decode b_P_verdict 5 = .ok (.invokevirtual 68, 3) := by decide +kernel
theorem d_P_verdict_8 : decode b_P_verdict 8 = .ok (.ifCond .ne 6, 3) := by decide +kernel
theorem d_P_verdict_11 : decode b_P_verdict 11 = .ok (.bipush (-2), 2) := by decide +kernel
theorem d_P_verdict_13 : decode b_P_verdict 13 = .ok (.ireturn, 1) := by decide +kernel
theorem d_P_verdict_14 : decode b_P_verdict 14 = .ok (.aload_n 0, 1) := by decide +kernel
theorem d_P_verdict_15 : decode b_P_verdict 15 = .ok (.getfield 37, 3) := by decide +kernel
theorem d_P_verdict_18 : decode b_P_verdict 18 = .ok (.aload_n 0, 1) := by decide +kernel
theorem d_P_verdict_19 : decode b_P_verdict 19 = .ok (.getfield 19, 3) := by decide +kernel
theorem d_P_verdict_22 : decode b_P_verdict 22 = .ok (.iload_n 1, 1) := by decide +kernel
theorem d_P_verdict_23 : decode b_P_verdict 23 = .ok (.invokevirtual 89, 3) := by decide +kernel
theorem d_P_verdict_26 : decode b_P_verdict 26 = .ok (.iconst 0, 1) := by decide +kernel
theorem d_P_verdict_27 : decode b_P_verdict 27 = .ok (.istore_n 2, 1) := by decide +kernel
theorem d_P_verdict_28 : decode b_P_verdict 28 = .ok (.iload_n 2, 1) := by decide +kernel
theorem d_P_verdict_29 : decode b_P_verdict 29 = .ok (.aload_n 0, 1) := by decide +kernel
theorem d_P_verdict_30 : decode b_P_verdict 30 = .ok (.getfield 37, 3) := by decide +kernel
theorem d_P_verdict_33 : decode b_P_verdict 33 = .ok (.getfield 93, 3) := by decide +kernel
theorem d_P_verdict_36 : decode b_P_verdict 36 = .ok (.if_icmp .ge 40, 3) := by decide +kernel
theorem d_P_verdict_39 : decode b_P_verdict 39 = .ok (.aload_n 0, 1) := by decide +kernel
theorem d_P_verdict_40 : decode b_P_verdict 40 = .ok (.getfield 37, 3) := by decide +kernel
theorem d_P_verdict_43 : decode b_P_verdict 43 = .ok (.getfield 96, 3) := by decide +kernel
theorem d_P_verdict_46 : decode b_P_verdict 46 = .ok (.iload_n 2, 1) := by decide +kernel
theorem d_P_verdict_47 : decode b_P_verdict 47 = .ok (.iaload, 1) := by decide +kernel
theorem d_P_verdict_48 : decode b_P_verdict 48 = .ok (.istore_n 3, 1) := by decide +kernel
theorem d_P_verdict_49 : decode b_P_verdict 49 = .ok (.aload_n 0, 1) := by decide +kernel
theorem d_P_verdict_50 : decode b_P_verdict 50 = .ok (.iload_n 3, 1) := by decide +kernel
theorem d_P_verdict_51 : decode b_P_verdict 51 = .ok (.invokevirtual 100, 3) := by decide +kernel
theorem d_P_verdict_54 : decode b_P_verdict 54 = .ok (.istore 4, 2) := by decide +kernel
theorem d_P_verdict_56 : decode b_P_verdict 56 = .ok (.iload 4, 2) := by decide +kernel
theorem d_P_verdict_58 : decode b_P_verdict 58 = .ok (.iconst (-1), 1) := by decide +kernel
theorem d_P_verdict_59 : decode b_P_verdict 59 = .ok (.if_icmp .eq 11, 3) := by decide +kernel
theorem d_P_verdict_62 : decode b_P_verdict 62 = .ok (.aload_n 0, 1) := by decide +kernel
theorem d_P_verdict_63 : decode b_P_verdict 63 = .ok (.iload_n 3, 1) := by decide +kernel
theorem d_P_verdict_64 : decode b_P_verdict 64 = .ok (.putfield 43, 3) := by decide +kernel
theorem d_P_verdict_67 : decode b_P_verdict 67 = .ok (.iload 4, 2) := by decide +kernel
theorem d_P_verdict_69 : decode b_P_verdict 69 = .ok (.ireturn, 1) := by decide +kernel
theorem d_P_verdict_70 : decode b_P_verdict 70 = .ok (.iinc 2 1, 3) := by decide +kernel
theorem d_P_verdict_73 : decode b_P_verdict 73 = .ok (.goto (-45), 3) := by decide +kernel
theorem d_P_verdict_76 : decode b_P_verdict 76 = .ok (.iconst (-1), 1) := by decide +kernel
theorem d_P_verdict_77 : decode b_P_verdict 77 = .ok (.ireturn, 1) := by decide +kernel
theorem d_P_culprit_0 : decode b_P_culprit 0 = .ok (.aload_n 0, 1) := by decide +kernel
theorem d_P_culprit_1 : decode b_P_culprit 1 = .ok (.getfield 43, 3) := by decide +kernel
theorem d_P_culprit_4 : decode b_P_culprit 4 = .ok (.ireturn, 1) := by decide +kernel
theorem d_Y_has_0 : decode b_Y_has 0 = .ok (.iload_n 1, 1) := by decide +kernel
theorem d_Y_has_1 : decode b_Y_has 1 = .ok (.ifCond .lt 15, 3) := by decide +kernel
theorem d_Y_has_4 : decode b_Y_has 4 = .ok (.iload_n 1, 1) := by decide +kernel
theorem d_Y_has_5 : decode b_Y_has 5 = .ok (.aload_n 0, 1) := by decide +kernel
theorem d_Y_has_6 : decode b_Y_has 6 = .ok (.getfield 18, 3) := by decide +kernel
theorem d_Y_has_9 : decode b_Y_has 9 = .ok (.if_icmp .ge 7, 3) := by decide +kernel
theorem d_Y_has_12 : decode b_Y_has 12 = .ok (.iconst 1, 1) := by decide +kernel
theorem d_Y_has_13 : decode b_Y_has 13 = .ok (.goto 4, 3) := by decide +kernel
theorem d_Y_has_16 : decode b_Y_has 16 = .ok (.iconst 0, 1) := by decide +kernel
theorem d_Y_has_17 : decode b_Y_has 17 = .ok (.ireturn, 1) := by decide +kernel
theorem d_P_breaks_0 : decode b_P_breaks 0 = .ok (.aload_n 0, 1) := by decide +kernel
theorem d_P_breaks_1 : decode b_P_breaks 1 = .ok (.getfield 19, 3) := by decide +kernel
theorem d_P_breaks_4 : decode b_P_breaks 4 = .ok (.iload_n 1, 1) := by decide +kernel
theorem d_P_breaks_5 : decode b_P_breaks 5 = .ok (.invokevirtual 68, 3) := by decide +kernel
theorem d_P_breaks_8 : decode b_P_breaks 8 = .ok (.ifCond .eq 27, 3) := by decide +kernel
theorem d_P_breaks_11 : decode b_P_breaks 11 = .ok (.aload_n 0, 1) := by decide +kernel
theorem d_P_breaks_12 : decode b_P_breaks 12 = .ok (.getfield 26, 3) := by decide +kernel
theorem d_P_breaks_15 : decode b_P_breaks 15 = .ok (.iload_n 2, 1) := by decide +kernel
theorem d_P_breaks_16 : decode b_P_breaks 16 = .ok (.invokevirtual 104, 3) := by decide +kernel
theorem d_P_breaks_19 : decode b_P_breaks 19 = .ok (.ifCond .eq 16, 3) := by decide +kernel
theorem d_P_breaks_22 : decode b_P_breaks 22 = .ok (.aload_n 0, 1) := by decide +kernel
theorem d_P_breaks_23 : decode b_P_breaks 23 = .ok (.iload_n 2, 1) := by decide +kernel
theorem d_P_breaks_24 : decode b_P_breaks 24 = .ok (.iload_n 1, 1) := by decide +kernel
theorem d_P_breaks_25 : decode b_P_breaks 25 = .ok (.invokevirtual 105, 3) := by decide +kernel
theorem d_P_breaks_28 : decode b_P_breaks 28 = .ok (.ifCond .eq 7, 3) := by decide +kernel
theorem d_P_breaks_31 : decode b_P_breaks 31 = .ok (.iconst 1, 1) := by decide +kernel
theorem d_P_breaks_32 : decode b_P_breaks 32 = .ok (.goto 4, 3) := by decide +kernel
theorem d_P_breaks_35 : decode b_P_breaks 35 = .ok (.iconst 0, 1) := by decide +kernel
theorem d_P_breaks_36 : decode b_P_breaks 36 = .ok (.ireturn, 1) := by decide +kernel
theorem d_P_closure_0 : decode b_P_closure 0 = .ok (.aload_n 0, 1) := by decide +kernel
theorem d_P_closure_1 : decode b_P_closure 1 = .ok (.getfield 19, 3) := by decide +kernel
theorem d_P_closure_4 : decode b_P_closure 4 = .ok (.iload_n 1, 1) := by decide +kernel
theorem d_P_closure_5 : decode b_P_closure 5 = .ok (.invokevirtual 68, 3) := by decide +kernel
theorem d_P_closure_8 : decode b_P_closure 8 = .ok (.ifCond .ne 5, 3) := by decide +kernel
theorem d_P_closure_11 : decode b_P_closure 11 = .ok (.iconst (-1), 1) := by decide +kernel
theorem d_P_closure_12 : decode b_P_closure 12 = .ok (.ireturn, 1) := by decide +kernel
theorem d_P_closure_13 : decode b_P_closure 13 = .ok (.aload_n 0, 1) := by decide +kernel
theorem d_P_closure_14 : decode b_P_closure 14 = .ok (.getfield 33, 3) := by decide +kernel
theorem d_P_closure_17 : decode b_P_closure 17 = .ok (.aload_n 0, 1) := by decide +kernel
theorem d_P_closure_18 : decode b_P_closure 18 = .ok (.getfield 19, 3) := by decide +kernel
theorem d_P_closure_21 : decode b_P_closure 21 = .ok (.iload_n 1, 1) := by decide +kernel
theorem d_P_closure_22 : decode b_P_closure 22 = .ok (.invokevirtual 89, 3) := by decide +kernel
theorem d_P_closure_25 : decode b_P_closure 25 = .ok (.aload_n 0, 1) := by decide +kernel
theorem d_P_closure_26 : decode b_P_closure 26 = .ok (.getfield 33, 3) := by decide +kernel
theorem d_P_closure_29 : decode b_P_closure 29 = .ok (.getfield 93, 3) := by decide +kernel
theorem d_P_closure_32 : decode b_P_closure 32 = .ok (.ireturn, 1) := by decide +kernel
theorem d_P_at_0 : decode b_P_at 0 = .ok (.iload_n 1, 1) := by decide +kernel
theorem d_P_at_1 : decode b_P_at 1 = .ok (.ifCond .lt 14, 3) := by decide +kernel
theorem d_P_at_4 : decode b_P_at 4 = .ok (.iload_n 1, 1) := by decide +kernel
theorem d_P_at_5 : decode b_P_at 5 = .ok (.aload_n 0, 1) := by decide +kernel
theorem d_P_at_6 : decode b_P_at 6 = .ok (.getfield 33, 3) := by decide +kernel
theorem d_P_at_9 : decode b_P_at 9 = .ok (.getfield 93, 3) := by decide +kernel
theorem d_P_at_12 : decode b_P_at 12 = .ok (.if_icmp .lt 5, 3) := by decide +kernel
theorem d_P_at_15 : decode b_P_at 15 = .ok (.iconst (-1), 1) := by decide +kernel
theorem d_P_at_16 : decode b_P_at 16 = .ok (.ireturn, 1) := by decide +kernel
theorem d_P_at_17 : decode b_P_at 17 = .ok (.aload_n 0, 1) := by decide +kernel
theorem d_P_at_18 : decode b_P_at 18 = .ok (.getfield 33, 3) := by decide +kernel
theorem d_P_at_21 : decode b_P_at 21 = .ok (.getfield 96, 3) := by decide +kernel
theorem d_P_at_24 : decode b_P_at 24 = .ok (.iload_n 1, 1) := by decide +kernel
theorem d_P_at_25 : decode b_P_at 25 = .ok (.iaload, 1) := by decide +kernel
theorem d_P_at_26 : decode b_P_at 26 = .ok (.ireturn, 1) := by decide +kernel
theorem d_P_usesDigest_0 : decode b_P_usesDigest 0 = .ok (.iconst 0, 1) := by decide +kernel
theorem d_P_usesDigest_1 : decode b_P_usesDigest 1 = .ok (.istore 4, 2) := by decide +kernel
theorem d_P_usesDigest_3 : decode b_P_usesDigest 3 = .ok (.iload 4, 2) := by decide +kernel
theorem d_P_usesDigest_5 : decode b_P_usesDigest 5 = .ok (.aload_n 0, 1) := by decide +kernel
theorem d_P_usesDigest_6 : decode b_P_usesDigest 6 = .ok (.getfield 19, 3) := by decide +kernel
theorem d_P_usesDigest_9 : decode b_P_usesDigest 9 = .ok (.getfield 69, 3) := by decide +kernel
theorem d_P_usesDigest_12 : decode b_P_usesDigest 12 = .ok (.getfield 176, 3) := by decide +kernel
theorem d_P_usesDigest_15 : decode b_P_usesDigest 15 = .ok (.iload_n 1, 1) := by decide +kernel
theorem d_P_usesDigest_16 : decode b_P_usesDigest 16 = .ok (.iaload, 1) := by decide +kernel
theorem d_P_usesDigest_17 : decode b_P_usesDigest 17 = .ok (.if_icmp .ge 34, 3) := by decide +kernel
theorem d_P_usesDigest_20 : decode b_P_usesDigest 20 = .ok (.aload_n 0, 1) := by decide +kernel
theorem d_P_usesDigest_21 : decode b_P_usesDigest 21 = .ok (.getfield 10, 3) := by decide +kernel
theorem d_P_usesDigest_24 : decode b_P_usesDigest 24 = .ok (.getfield 196, 3) := by decide +kernel
theorem d_P_usesDigest_27 : decode b_P_usesDigest 27 = .ok (.aload_n 0, 1) := by decide +kernel
theorem d_P_usesDigest_28 : decode b_P_usesDigest 28 = .ok (.getfield 19, 3) := by decide +kernel
theorem d_P_usesDigest_31 : decode b_P_usesDigest 31 = .ok (.iload_n 1, 1) := by decide +kernel
theorem d_P_usesDigest_32 : decode b_P_usesDigest 32 = .ok (.iload 4, 2) := by decide +kernel
theorem d_P_usesDigest_34 : decode b_P_usesDigest 34 = .ok (.invokevirtual 182, 3) := by decide +kernel
theorem d_P_usesDigest_37 : decode b_P_usesDigest 37 = .ok (.laload, 1) := by decide +kernel
theorem d_P_usesDigest_38 : decode b_P_usesDigest 38 = .ok (.lload_n 2, 1) := by decide +kernel
theorem d_P_usesDigest_39 : decode b_P_usesDigest 39 = .ok (.lcmp, 1) := by decide +kernel
theorem d_P_usesDigest_40 : decode b_P_usesDigest 40 = .ok (.ifCond .ne 5, 3) := by decide +kernel
theorem d_P_usesDigest_43 : decode b_P_usesDigest 43 = .ok (.iconst 1, 1) := by decide +kernel
theorem d_P_usesDigest_44 : decode b_P_usesDigest 44 = .ok (.ireturn, 1) := by decide +kernel
theorem d_P_usesDigest_45 : decode b_P_usesDigest 45 = .ok (.iinc 4 1, 3) := by decide +kernel
theorem d_P_usesDigest_48 : decode b_P_usesDigest 48 = .ok (.goto (-45), 3) := by decide +kernel
theorem d_P_usesDigest_51 : decode b_P_usesDigest 51 = .ok (.iconst 0, 1) := by decide +kernel
theorem d_P_usesDigest_52 : decode b_P_usesDigest 52 = .ok (.ireturn, 1) := by decide +kernel
theorem d_P_restsOn_0 : decode b_P_restsOn 0 = .ok (.aload_n 0, 1) := by decide +kernel
theorem d_P_restsOn_1 : decode b_P_restsOn 1 = .ok (.getfield 37, 3) := by decide +kernel
theorem d_P_restsOn_4 : decode b_P_restsOn 4 = .ok (.aload_n 0, 1) := by decide +kernel
theorem d_P_restsOn_5 : decode b_P_restsOn 5 = .ok (.getfield 19, 3) := by decide +kernel
theorem d_P_restsOn_8 : decode b_P_restsOn 8 = .ok (.iload_n 1, 1) := by decide +kernel
theorem d_P_restsOn_9 : decode b_P_restsOn 9 = .ok (.invokevirtual 89, 3) := by decide +kernel
theorem d_P_restsOn_12 : decode b_P_restsOn 12 = .ok (.iconst 0, 1) := by decide +kernel
theorem d_P_restsOn_13 : decode b_P_restsOn 13 = .ok (.istore 4, 2) := by decide +kernel
theorem d_P_restsOn_15 : decode b_P_restsOn 15 = .ok (.iload 4, 2) := by decide +kernel
theorem d_P_restsOn_17 : decode b_P_restsOn 17 = .ok (.aload_n 0, 1) := by decide +kernel
theorem d_P_restsOn_18 : decode b_P_restsOn 18 = .ok (.getfield 37, 3) := by decide +kernel
theorem d_P_restsOn_21 : decode b_P_restsOn 21 = .ok (.getfield 93, 3) := by decide +kernel
theorem d_P_restsOn_24 : decode b_P_restsOn 24 = .ok (.if_icmp .ge 29, 3) := by decide +kernel
theorem d_P_restsOn_27 : decode b_P_restsOn 27 = .ok (.aload_n 0, 1) := by decide +kernel
theorem d_P_restsOn_28 : decode b_P_restsOn 28 = .ok (.aload_n 0, 1) := by decide +kernel
theorem d_P_restsOn_29 : decode b_P_restsOn 29 = .ok (.getfield 37, 3) := by decide +kernel
theorem d_P_restsOn_32 : decode b_P_restsOn 32 = .ok (.getfield 96, 3) := by decide +kernel
theorem d_P_restsOn_35 : decode b_P_restsOn 35 = .ok (.iload 4, 2) := by decide +kernel
theorem d_P_restsOn_37 : decode b_P_restsOn 37 = .ok (.iaload, 1) := by decide +kernel
theorem d_P_restsOn_38 : decode b_P_restsOn 38 = .ok (.lload_n 2, 1) := by decide +kernel
theorem d_P_restsOn_39 : decode b_P_restsOn 39 = .ok (.invokevirtual 193, 3) := by decide +kernel
theorem d_P_restsOn_42 : decode b_P_restsOn 42 = .ok (.ifCond .eq 5, 3) := by decide +kernel
theorem d_P_restsOn_45 : decode b_P_restsOn 45 = .ok (.iconst 1, 1) := by decide +kernel
theorem d_P_restsOn_46 : decode b_P_restsOn 46 = .ok (.ireturn, 1) := by decide +kernel
theorem d_P_restsOn_47 : decode b_P_restsOn 47 = .ok (.iinc 4 1, 3) := by decide +kernel
theorem d_P_restsOn_50 : decode b_P_restsOn 50 = .ok (.goto (-35), 3) := by decide +kernel
theorem d_P_restsOn_53 : decode b_P_restsOn 53 = .ok (.iconst 0, 1) := by decide +kernel
theorem d_P_restsOn_54 : decode b_P_restsOn 54 = .ok (.ireturn, 1) := by decide +kernel
theorem d_P_holds_0 : decode b_P_holds 0 = .ok (.iconst 0, 1) := by decide +kernel
theorem d_P_holds_1 : decode b_P_holds 1 = .ok (.istore 4, 2) := by decide +kernel
theorem d_P_holds_3 : decode b_P_holds 3 = .ok (.iconst 0, 1) := by decide +kernel
theorem d_P_holds_4 : decode b_P_holds 4 = .ok (.istore 5, 2) := by decide +kernel
theorem d_P_holds_6 : decode b_P_holds 6 = .ok (.iload 5, 2) := by decide +kernel
theorem d_P_holds_8 : decode b_P_holds 8 = .ok (.aload_n 0, 1) := by decide +kernel
theorem d_P_holds_9 : decode b_P_holds 9 = .ok (.getfield 19, 3) := by decide +kernel
theorem d_P_holds_12 : decode b_P_holds 12 = .ok (.getfield 108, 3) := by decide +kernel
theorem d_P_holds_15 : decode b_P_holds 15 = .ok (.if_icmp .ge 31, 3) := by decide +kernel
theorem d_P_holds_18 : decode b_P_holds 18 = .ok (.aload_n 0, 1) := by decide +kernel
theorem d_P_holds_19 : decode b_P_holds 19 = .ok (.iload 5, 2) := by decide +kernel
theorem d_P_holds_21 : decode b_P_holds 21 = .ok (.lload_n 1, 1) := by decide +kernel
theorem d_P_holds_22 : decode b_P_holds 22 = .ok (.invokevirtual 109, 3) := by decide +kernel
theorem d_P_holds_25 : decode b_P_holds 25 = .ok (.ifCond .eq 15, 3) := by decide +kernel
theorem d_P_holds_28 : decode b_P_holds 28 = .ok (.iload 4, 2) := by decide +kernel
theorem d_P_holds_30 : decode b_P_holds 30 = .ok (.iload_n 3, 1) := by decide +kernel
theorem d_P_holds_31 : decode b_P_holds 31 = .ok (.if_icmp .ne 6, 3) := by decide +kernel
theorem d_P_holds_34 : decode b_P_holds 34 = .ok (.iload 5, 2) := by decide +kernel
theorem d_P_holds_36 : decode b_P_holds 36 = .ok (.ireturn, 1) := by decide +kernel
theorem d_P_holds_37 : decode b_P_holds 37 = .ok (.iinc 4 1, 3) := by decide +kernel
theorem d_P_holds_40 : decode b_P_holds 40 = .ok (.iinc 5 1, 3) := by decide +kernel
theorem d_P_holds_43 : decode b_P_holds 43 = .ok (.goto (-37), 3) := by decide +kernel
theorem d_P_holds_46 : decode b_P_holds 46 = .ok (.iconst (-1), 1) := by decide +kernel
theorem d_P_holds_47 : decode b_P_holds 47 = .ok (.ireturn, 1) := by decide +kernel
theorem d_P_missing_0 : decode b_P_missing 0 = .ok (.aload_n 0, 1) := by decide +kernel
theorem d_P_missing_1 : decode b_P_missing 1 = .ok (.getfield 19, 3) := by decide +kernel
theorem d_P_missing_4 : decode b_P_missing 4 = .ok (.iload_n 1, 1) := by decide +kernel
theorem d_P_missing_5 : decode b_P_missing 5 = .ok (.invokevirtual 68, 3) := by decide +kernel
theorem d_P_missing_8 : decode b_P_missing 8 = .ok (.ifCond .ne 5, 3) := by decide +kernel
theorem d_P_missing_11 : decode b_P_missing 11 = .ok (.iconst (-1), 1) := by decide +kernel
theorem d_P_missing_12 : decode b_P_missing 12 = .ok (.ireturn, 1) := by decide +kernel
theorem d_P_missing_13 : decode b_P_missing 13 = .ok (.aload_n 0, 1) := by decide +kernel
theorem d_P_missing_14 : decode b_P_missing 14 = .ok (.getfield 19, 3) := by decide +kernel
theorem d_P_missing_17 : decode b_P_missing 17 = .ok (.iload_n 1, 1) := by decide +kernel
theorem d_P_missing_18 : decode b_P_missing 18 = .ok (.iload_n 2, 1) := by decide +kernel
theorem d_P_missing_19 : decode b_P_missing 19 = .ok (.invokevirtual 112, 3) := by decide +kernel
theorem d_P_missing_22 : decode b_P_missing 22 = .ok (.ireturn, 1) := by decide +kernel
theorem d_A_differAtPath_0 : decode b_A_differAtPath 0 = .ok (.aload_n 0, 1) := by decide +kernel
theorem d_A_differAtPath_1 : decode b_A_differAtPath 1 = .ok (.getfield 41, 3) := by decide +kernel
theorem d_A_differAtPath_4 : decode b_A_differAtPath 4 = .ok (.iload_n 1, 1) := by decide +kernel
theorem d_A_differAtPath_5 : decode b_A_differAtPath 5 = .ok (.iaload, 1) := by decide +kernel
theorem d_A_differAtPath_6 : decode b_A_differAtPath 6 = .ok (.iload_n 3, 1) := by decide +kernel
theorem d_A_differAtPath_7 : decode b_A_differAtPath 7 = .ok (.invokestatic 81, 3) := by decide +kernel
theorem d_A_differAtPath_10 : decode b_A_differAtPath 10 = .ok (.aload_n 0, 1) := by decide +kernel
theorem d_A_differAtPath_11 : decode b_A_differAtPath 11 = .ok (.getfield 41, 3) := by decide +kernel
theorem d_A_differAtPath_14 : decode b_A_differAtPath 14 = .ok (.iload_n 2, 1) := by decide +kernel
theorem d_A_differAtPath_15 : decode b_A_differAtPath 15 = .ok (.iaload, 1) := by decide +kernel
theorem d_A_differAtPath_16 : decode b_A_differAtPath 16 = .ok (.iload_n 3, 1) := by decide +kernel
theorem d_A_differAtPath_17 : decode b_A_differAtPath 17 = .ok (.invokestatic 81, 3) := by decide +kernel
theorem d_A_differAtPath_20 : decode b_A_differAtPath 20 = .ok (.if_icmp .ne 29, 3) := by decide +kernel
theorem d_A_differAtPath_23 : decode b_A_differAtPath 23 = .ok (.aload_n 0, 1) := by decide +kernel
theorem d_A_differAtPath_24 : decode b_A_differAtPath 24 = .ok (.getfield 44, 3) := by decide +kernel
theorem d_A_differAtPath_27 : decode b_A_differAtPath 27 = .ok (.iload_n 1, 1) := by decide +kernel
theorem d_A_differAtPath_28 : decode b_A_differAtPath 28 = .ok (.bipush 8, 2) := by decide +kernel
theorem d_A_differAtPath_30 : decode b_A_differAtPath 30 = .ok (.imul, 1) := by decide +kernel
theorem d_A_differAtPath_31 : decode b_A_differAtPath 31 = .ok (.iload_n 3, 1) := by decide +kernel
theorem d_A_differAtPath_32 : decode b_A_differAtPath 32 = .ok (.iadd, 1) := by decide +kernel
theorem d_A_differAtPath_33 : decode b_A_differAtPath 33 = .ok (.laload, 1) := by decide +kernel
theorem d_A_differAtPath_34 : decode b_A_differAtPath 34 = .ok (.aload_n 0, 1) := by decide +kernel
theorem d_A_differAtPath_35 : decode b_A_differAtPath 35 = .ok (.getfield 44, 3) := by decide +kernel
theorem d_A_differAtPath_38 : decode b_A_differAtPath 38 = .ok (.iload_n 2, 1) := by decide +kernel
theorem d_A_differAtPath_39 : decode b_A_differAtPath 39 = .ok (.bipush 8, 2) := by decide +kernel
theorem d_A_differAtPath_41 : decode b_A_differAtPath 41 = .ok (.imul, 1) := by decide +kernel
theorem d_A_differAtPath_42 : decode b_A_differAtPath 42 = .ok (.iload_n 3, 1) := by decide +kernel
theorem d_A_differAtPath_43 : decode b_A_differAtPath 43 = .ok (.iadd, 1) := by decide +kernel
theorem d_A_differAtPath_44 : decode b_A_differAtPath 44 = .ok (.laload, 1) := by decide +kernel
theorem d_A_differAtPath_45 : decode b_A_differAtPath 45 = .ok (.lcmp, 1) := by decide +kernel
theorem d_A_differAtPath_46 : decode b_A_differAtPath 46 = .ok (.ifCond .eq 7, 3) := by decide +kernel
theorem d_A_differAtPath_49 : decode b_A_differAtPath 49 = .ok (.iconst 1, 1) := by decide +kernel
theorem d_A_differAtPath_50 : decode b_A_differAtPath 50 = .ok (.goto 4, 3) := by decide +kernel
theorem d_A_differAtPath_53 : decode b_A_differAtPath 53 = .ok (.iconst 0, 1) := by decide +kernel
theorem d_A_differAtPath_54 : decode b_A_differAtPath 54 = .ok (.ireturn, 1) := by decide +kernel
theorem d_P_bitIf_0 : decode b_P_bitIf 0 = .ok (.iload_n 0, 1) := by decide +kernel
theorem d_P_bitIf_1 : decode b_P_bitIf 1 = .ok (.ifCond .eq 9, 3) := by decide +kernel
theorem d_P_bitIf_4 : decode b_P_bitIf 4 = .ok (.iconst 1, 1) := by decide +kernel
theorem d_P_bitIf_5 : decode b_P_bitIf 5 = .ok (.iload_n 1, 1) := by decide +kernel
theorem d_P_bitIf_6 : decode b_P_bitIf 6 = .ok (.ishl, 1) := by decide +kernel
theorem d_P_bitIf_7 : decode b_P_bitIf 7 = .ok (.goto 4, 3) := by decide +kernel
theorem d_P_bitIf_10 : decode b_P_bitIf 10 = .ok (.iconst 0, 1) := by decide +kernel
theorem d_P_bitIf_11 : decode b_P_bitIf 11 = .ok (.ireturn, 1) := by decide +kernel
theorem d_P_rebuilt_0 : decode b_P_rebuilt 0 = .ok (.aload_n 0, 1) := by decide +kernel
theorem d_P_rebuilt_1 : decode b_P_rebuilt 1 = .ok (.getfield 19, 3) := by decide +kernel
theorem d_P_rebuilt_4 : decode b_P_rebuilt 4 = .ok (.iload_n 1, 1) := by decide +kernel
theorem d_P_rebuilt_5 : decode b_P_rebuilt 5 = .ok (.invokevirtual 68, 3) := by decide +kernel
theorem d_P_rebuilt_8 : decode b_P_rebuilt 8 = .ok (.ifCond .eq 14, 3) := by decide +kernel
theorem d_P_rebuilt_11 : decode b_P_rebuilt 11 = .ok (.aload_n 0, 1) := by decide +kernel
theorem d_P_rebuilt_12 : decode b_P_rebuilt 12 = .ok (.getfield 19, 3) := by decide +kernel
theorem d_P_rebuilt_15 : decode b_P_rebuilt 15 = .ok (.iload_n 2, 1) := by decide +kernel
theorem d_P_rebuilt_16 : decode b_P_rebuilt 16 = .ok (.invokevirtual 68, 3) := by decide +kernel
theorem d_P_rebuilt_19 : decode b_P_rebuilt 19 = .ok (.ifCond .ne 5, 3) := by decide +kernel
theorem d_P_rebuilt_22 : decode b_P_rebuilt 22 = .ok (.iconst (-1), 1) := by decide +kernel
theorem d_P_rebuilt_23 : decode b_P_rebuilt 23 = .ok (.ireturn, 1) := by decide +kernel
theorem d_P_rebuilt_24 : decode b_P_rebuilt 24 = .ok (.iconst 0, 1) := by decide +kernel
theorem d_P_rebuilt_25 : decode b_P_rebuilt 25 = .ok (.istore_n 3, 1) := by decide +kernel
theorem d_P_rebuilt_26 : decode b_P_rebuilt 26 = .ok (.iconst 0, 1) := by decide +kernel
theorem d_P_rebuilt_27 : decode b_P_rebuilt 27 = .ok (.istore 4, 2) := by decide +kernel
theorem d_P_rebuilt_29 : decode b_P_rebuilt 29 = .ok (.iload 4, 2) := by decide +kernel
theorem d_P_rebuilt_31 : decode b_P_rebuilt 31 = .ok (.bipush 8, 2) := by decide +kernel
theorem d_P_rebuilt_33 : decode b_P_rebuilt 33 = .ok (.if_icmp .ge 28, 3) := by decide +kernel
theorem d_P_rebuilt_36 : decode b_P_rebuilt 36 = .ok (.iload_n 3, 1) := by decide +kernel
theorem d_P_rebuilt_37 : decode b_P_rebuilt 37 = .ok (.aload_n 0, 1) := by decide +kernel
theorem d_P_rebuilt_38 : decode b_P_rebuilt 38 = .ok (.getfield 19, 3) := by decide +kernel
theorem d_P_rebuilt_41 : decode b_P_rebuilt 41 = .ok (.iload_n 1, 1) := by decide +kernel
theorem d_P_rebuilt_42 : decode b_P_rebuilt 42 = .ok (.iload_n 2, 1) := by decide +kernel
theorem d_P_rebuilt_43 : decode b_P_rebuilt 43 = .ok (.iload 4, 2) := by decide +kernel
theorem d_P_rebuilt_45 : decode b_P_rebuilt 45 = .ok (.invokevirtual 115, 3) := by decide +kernel
theorem d_P_rebuilt_48 : decode b_P_rebuilt 48 = .ok (.iload 4, 2) := by decide +kernel
theorem d_P_rebuilt_50 : decode b_P_rebuilt 50 = .ok (.invokestatic 119, 3) := by decide +kernel
theorem d_P_rebuilt_53 : decode b_P_rebuilt 53 = .ok (.ior, 1) := by decide +kernel
theorem d_P_rebuilt_54 : decode b_P_rebuilt 54 = .ok (.istore_n 3, 1) := by decide +kernel
theorem d_P_rebuilt_55 : decode b_P_rebuilt 55 = .ok (.iinc 4 1, 3) := by decide +kernel
theorem d_P_rebuilt_58 : decode b_P_rebuilt 58 = .ok (.goto (-29), 3) := by decide +kernel
theorem d_P_rebuilt_61 : decode b_P_rebuilt 61 = .ok (.iload_n 3, 1) := by decide +kernel
theorem d_P_rebuilt_62 : decode b_P_rebuilt 62 = .ok (.ireturn, 1) := by decide +kernel
theorem d_W_sameAsSets_0 : decode b_W_sameAsSets 0 = .ok (.aload_n 0, 1) := by decide +kernel
theorem d_W_sameAsSets_1 : decode b_W_sameAsSets 1 = .ok (.getfield 9, 3) := by decide +kernel
theorem d_W_sameAsSets_4 : decode b_W_sameAsSets 4 = .ok (.iload_n 1, 1) := by decide +kernel
theorem d_W_sameAsSets_5 : decode b_W_sameAsSets 5 = .ok (.iaload, 1) := by decide +kernel
theorem d_W_sameAsSets_6 : decode b_W_sameAsSets 6 = .ok (.aload_n 0, 1) := by decide +kernel
theorem d_W_sameAsSets_7 : decode b_W_sameAsSets 7 = .ok (.getfield 9, 3) := by decide +kernel
theorem d_W_sameAsSets_10 : decode b_W_sameAsSets 10 = .ok (.iload_n 2, 1) := by decide +kernel
theorem d_W_sameAsSets_11 : decode b_W_sameAsSets 11 = .ok (.iaload, 1) := by decide +kernel
theorem d_W_sameAsSets_12 : decode b_W_sameAsSets 12 = .ok (.if_icmp .eq 5, 3) := by decide +kernel
theorem d_W_sameAsSets_15 : decode b_W_sameAsSets 15 = .ok (.iconst 0, 1) := by decide +kernel
theorem d_W_sameAsSets_16 : decode b_W_sameAsSets 16 = .ok (.ireturn, 1) := by decide +kernel
theorem d_W_sameAsSets_17 : decode b_W_sameAsSets 17 = .ok (.iconst 0, 1) := by decide +kernel
theorem d_W_sameAsSets_18 : decode b_W_sameAsSets 18 = .ok (.istore_n 3, 1) := by decide +kernel
theorem d_W_sameAsSets_19 : decode b_W_sameAsSets 19 = .ok (.iload_n 3, 1) := by decide +kernel
theorem d_W_sameAsSets_20 : decode b_W_sameAsSets 20 = .ok (.aload_n 0, 1) := by decide +kernel
theorem d_W_sameAsSets_21 : decode b_W_sameAsSets 21 = .ok (.getfield 9, 3) := by decide +kernel
theorem d_W_sameAsSets_24 : decode b_W_sameAsSets 24 = .ok (.iload_n 1, 1) := by decide +kernel
theorem d_W_sameAsSets_25 : decode b_W_sameAsSets 25 = .ok (.iaload, 1) := by decide +kernel
theorem d_W_sameAsSets_26 : decode b_W_sameAsSets 26 = .ok (.if_icmp .ge 25, 3) := by decide +kernel
theorem d_W_sameAsSets_29 : decode b_W_sameAsSets 29 = .ok (.aload_n 0, 1) := by decide +kernel
theorem d_W_sameAsSets_30 : decode b_W_sameAsSets 30 = .ok (.iload_n 2, 1) := by decide +kernel
theorem d_W_sameAsSets_31 : decode b_W_sameAsSets 31 = .ok (.aload_n 0, 1) := by decide +kernel
theorem d_W_sameAsSets_32 : decode b_W_sameAsSets 32 = .ok (.iload_n 1, 1) := by decide +kernel
theorem d_W_sameAsSets_33 : decode b_W_sameAsSets 33 = .ok (.iload_n 3, 1) := by decide +kernel
theorem d_W_sameAsSets_34 : decode b_W_sameAsSets 34 = .ok (.invokevirtual 23, 3) := by decide +kernel
theorem d_W_sameAsSets_37 : decode b_W_sameAsSets 37 = .ok (.invokevirtual 19, 3) := by decide +kernel
theorem d_W_sameAsSets_40 : decode b_W_sameAsSets 40 = .ok (.ifCond .ne 5, 3) := by decide +kernel
theorem d_W_sameAsSets_43 : decode b_W_sameAsSets 43 = .ok (.iconst 0, 1) := by decide +kernel
theorem d_W_sameAsSets_44 : decode b_W_sameAsSets 44 = .ok (.ireturn, 1) := by decide +kernel
theorem d_W_sameAsSets_45 : decode b_W_sameAsSets 45 = .ok (.iinc 3 1, 3) := by decide +kernel
theorem d_W_sameAsSets_48 : decode b_W_sameAsSets 48 = .ok (.goto (-29), 3) := by decide +kernel
theorem d_W_sameAsSets_51 : decode b_W_sameAsSets 51 = .ok (.iconst 1, 1) := by decide +kernel
theorem d_W_sameAsSets_52 : decode b_W_sameAsSets 52 = .ok (.ireturn, 1) := by decide +kernel
theorem d_P_differ_0 : decode b_P_differ 0 = .ok (.aload_n 0, 1) := by decide +kernel
theorem d_P_differ_1 : decode b_P_differ 1 = .ok (.getfield 19, 3) := by decide +kernel
theorem d_P_differ_4 : decode b_P_differ 4 = .ok (.iload_n 1, 1) := by decide +kernel
theorem d_P_differ_5 : decode b_P_differ 5 = .ok (.invokevirtual 68, 3) := by decide +kernel
theorem d_P_differ_8 : decode b_P_differ 8 = .ok (.ifCond .eq 14, 3) := by decide +kernel
theorem d_P_differ_11 : decode b_P_differ 11 = .ok (.aload_n 0, 1) := by decide +kernel
theorem d_P_differ_12 : decode b_P_differ 12 = .ok (.getfield 19, 3) := by decide +kernel
theorem d_P_differ_15 : decode b_P_differ 15 = .ok (.iload_n 2, 1) := by decide +kernel
theorem d_P_differ_16 : decode b_P_differ 16 = .ok (.invokevirtual 68, 3) := by decide +kernel
theorem d_P_differ_19 : decode b_P_differ 19 = .ok (.ifCond .ne 5, 3) := by decide +kernel
theorem d_P_differ_22 : decode b_P_differ 22 = .ok (.iconst (-1), 1) := by decide +kernel
theorem d_P_differ_23 : decode b_P_differ 23 = .ok (.ireturn, 1) := by decide +kernel
theorem d_P_differ_24 : decode b_P_differ 24 = .ok (.aload_n 0, 1) := by decide +kernel
theorem d_P_differ_25 : decode b_P_differ 25 = .ok (.getfield 19, 3) := by decide +kernel
theorem d_P_differ_28 : decode b_P_differ 28 = .ok (.getfield 123, 3) := by decide +kernel
theorem d_P_differ_31 : decode b_P_differ 31 = .ok (.iload_n 1, 1) := by decide +kernel
theorem d_P_differ_32 : decode b_P_differ 32 = .ok (.laload, 1) := by decide +kernel
theorem d_P_differ_33 : decode b_P_differ 33 = .ok (.aload_n 0, 1) := by decide +kernel
theorem d_P_differ_34 : decode b_P_differ 34 = .ok (.getfield 19, 3) := by decide +kernel
theorem d_P_differ_37 : decode b_P_differ 37 = .ok (.getfield 123, 3) := by decide +kernel
theorem d_P_differ_40 : decode b_P_differ 40 = .ok (.iload_n 2, 1) := by decide +kernel
theorem d_P_differ_41 : decode b_P_differ 41 = .ok (.laload, 1) := by decide +kernel
theorem d_P_differ_42 : decode b_P_differ 42 = .ok (.lcmp, 1) := by decide +kernel
theorem d_P_differ_43 : decode b_P_differ 43 = .ok (.ifCond .eq 7, 3) := by decide +kernel
theorem d_P_differ_46 : decode b_P_differ 46 = .ok (.iconst 1, 1) := by decide +kernel
theorem d_P_differ_47 : decode b_P_differ 47 = .ok (.goto 4, 3) := by decide +kernel
theorem d_P_differ_50 : decode b_P_differ 50 = .ok (.iconst 0, 1) := by decide +kernel
theorem d_P_differ_51 : decode b_P_differ 51 = .ok (.iconst 0, 1) := by decide +kernel
theorem d_P_differ_52 : decode b_P_differ 52 = .ok (.invokestatic 119, 3) := by decide +kernel
theorem d_P_differ_55 : decode b_P_differ 55 = .ok (.aload_n 0, 1) := by decide +kernel
theorem d_P_differ_56 : decode b_P_differ 56 = .ok (.getfield 19, 3) := by decide +kernel
theorem d_P_differ_59 : decode b_P_differ 59 = .ok (.getfield 127, 3) := by decide +kernel
theorem d_P_differ_62 : decode b_P_differ 62 = .ok (.iload_n 1, 1) := by decide +kernel
theorem d_P_differ_63 : decode b_P_differ 63 = .ok (.iaload, 1) := by decide +kernel
theorem d_P_differ_64 : decode b_P_differ 64 = .ok (.aload_n 0, 1) := by decide +kernel
theorem d_P_differ_65 : decode b_P_differ 65 = .ok (.getfield 19, 3) := by decide +kernel
theorem d_P_differ_68 : decode b_P_differ 68 = .ok (.getfield 127, 3) := by decide +kernel
theorem d_P_differ_71 : decode b_P_differ 71 = .ok (.iload_n 2, 1) := by decide +kernel
theorem d_P_differ_72 : decode b_P_differ 72 = .ok (.iaload, 1) := by decide +kernel
theorem d_P_differ_73 : decode b_P_differ 73 = .ok (.if_icmp .eq 7, 3) := by decide +kernel
theorem d_P_differ_76 : decode b_P_differ 76 = .ok (.iconst 1, 1) := by decide +kernel
theorem d_P_differ_77 : decode b_P_differ 77 = .ok (.goto 4, 3) := by decide +kernel
theorem d_P_differ_80 : decode b_P_differ 80 = .ok (.iconst 0, 1) := by decide +kernel
theorem d_P_differ_81 : decode b_P_differ 81 = .ok (.iconst 1, 1) := by decide +kernel
theorem d_P_differ_82 : decode b_P_differ 82 = .ok (.invokestatic 119, 3) := by decide +kernel
theorem d_P_differ_85 : decode b_P_differ 85 = .ok (.ior, 1) := by decide +kernel
theorem d_P_differ_86 : decode b_P_differ 86 = .ok (.aload_n 0, 1) := by decide +kernel
theorem d_P_differ_87 : decode b_P_differ 87 = .ok (.getfield 19, 3) := by decide +kernel
theorem d_P_differ_90 : decode b_P_differ 90 = .ok (.getfield 130, 3) := by decide +kernel
theorem d_P_differ_93 : decode b_P_differ 93 = .ok (.iload_n 1, 1) := by decide +kernel
theorem d_P_differ_94 : decode b_P_differ 94 = .ok (.iaload, 1) := by decide +kernel
theorem d_P_differ_95 : decode b_P_differ 95 = .ok (.aload_n 0, 1) := by decide +kernel
theorem d_P_differ_96 : decode b_P_differ 96 = .ok (.getfield 19, 3) := by decide +kernel
theorem d_P_differ_99 : decode b_P_differ 99 = .ok (.getfield 130, 3) := by decide +kernel
theorem d_P_differ_102 : decode b_P_differ 102 = .ok (.iload_n 2, 1) := by decide +kernel
theorem d_P_differ_103 : decode b_P_differ 103 = .ok (.iaload, 1) := by decide +kernel
theorem d_P_differ_104 : decode b_P_differ 104 = .ok (.if_icmp .eq 7, 3) := by decide +kernel
theorem d_P_differ_107 : decode b_P_differ 107 = .ok (.iconst 1, 1) := by decide +kernel
theorem d_P_differ_108 : decode b_P_differ 108 = .ok (.goto 4, 3) := by decide +kernel
theorem d_P_differ_111 : decode b_P_differ 111 = .ok (.iconst 0, 1) := by decide +kernel
theorem d_P_differ_112 : decode b_P_differ 112 = .ok (.iconst 2, 1) := by decide +kernel
theorem d_P_differ_113 : decode b_P_differ 113 = .ok (.invokestatic 119, 3) := by decide +kernel
theorem d_P_differ_116 : decode b_P_differ 116 = .ok (.ior, 1) := by decide +kernel
theorem d_P_differ_117 : decode b_P_differ 117 = .ok (.aload_n 0, 1) := by decide +kernel
theorem d_P_differ_118 : decode b_P_differ 118 = .ok (.getfield 19, 3) := by decide +kernel
theorem d_P_differ_121 : decode b_P_differ 121 = .ok (.getfield 133, 3) := by decide +kernel
theorem d_P_differ_124 : decode b_P_differ 124 = .ok (.iload_n 1, 1) := by decide +kernel
theorem d_P_differ_125 : decode b_P_differ 125 = .ok (.iaload, 1) := by decide +kernel
theorem d_P_differ_126 : decode b_P_differ 126 = .ok (.aload_n 0, 1) := by decide +kernel
theorem d_P_differ_127 : decode b_P_differ 127 = .ok (.getfield 19, 3) := by decide +kernel
theorem d_P_differ_130 : decode b_P_differ 130 = .ok (.getfield 133, 3) := by decide +kernel
theorem d_P_differ_133 : decode b_P_differ 133 = .ok (.iload_n 2, 1) := by decide +kernel
theorem d_P_differ_134 : decode b_P_differ 134 = .ok (.iaload, 1) := by decide +kernel
theorem d_P_differ_135 : decode b_P_differ 135 = .ok (.if_icmp .eq 7, 3) := by decide +kernel
theorem d_P_differ_138 : decode b_P_differ 138 = .ok (.iconst 1, 1) := by decide +kernel
theorem d_P_differ_139 : decode b_P_differ 139 = .ok (.goto 4, 3) := by decide +kernel
theorem d_P_differ_142 : decode b_P_differ 142 = .ok (.iconst 0, 1) := by decide +kernel
theorem d_P_differ_143 : decode b_P_differ 143 = .ok (.iconst 3, 1) := by decide +kernel
theorem d_P_differ_144 : decode b_P_differ 144 = .ok (.invokestatic 119, 3) := by decide +kernel
theorem d_P_differ_147 : decode b_P_differ 147 = .ok (.ior, 1) := by decide +kernel
theorem d_P_differ_148 : decode b_P_differ 148 = .ok (.aload_n 0, 1) := by decide +kernel
theorem d_P_differ_149 : decode b_P_differ 149 = .ok (.getfield 19, 3) := by decide +kernel
theorem d_P_differ_152 : decode b_P_differ 152 = .ok (.getfield 136, 3) := by decide +kernel
theorem d_P_differ_155 : decode b_P_differ 155 = .ok (.iload_n 1, 1) := by decide +kernel
theorem d_P_differ_156 : decode b_P_differ 156 = .ok (.iaload, 1) := by decide +kernel
theorem d_P_differ_157 : decode b_P_differ 157 = .ok (.aload_n 0, 1) := by decide +kernel
theorem d_P_differ_158 : decode b_P_differ 158 = .ok (.getfield 19, 3) := by decide +kernel
theorem d_P_differ_161 : decode b_P_differ 161 = .ok (.getfield 136, 3) := by decide +kernel
theorem d_P_differ_164 : decode b_P_differ 164 = .ok (.iload_n 2, 1) := by decide +kernel
theorem d_P_differ_165 : decode b_P_differ 165 = .ok (.iaload, 1) := by decide +kernel
theorem d_P_differ_166 : decode b_P_differ 166 = .ok (.if_icmp .eq 7, 3) := by decide +kernel
theorem d_P_differ_169 : decode b_P_differ 169 = .ok (.iconst 1, 1) := by decide +kernel
theorem d_P_differ_170 : decode b_P_differ 170 = .ok (.goto 4, 3) := by decide +kernel
theorem d_P_differ_173 : decode b_P_differ 173 = .ok (.iconst 0, 1) := by decide +kernel
theorem d_P_differ_174 : decode b_P_differ 174 = .ok (.iconst 4, 1) := by decide +kernel
theorem d_P_differ_175 : decode b_P_differ 175 = .ok (.invokestatic 119, 3) := by decide +kernel
theorem d_P_differ_178 : decode b_P_differ 178 = .ok (.ior, 1) := by decide +kernel
theorem d_P_differ_179 : decode b_P_differ 179 = .ok (.aload_n 0, 1) := by decide +kernel
theorem d_P_differ_180 : decode b_P_differ 180 = .ok (.getfield 19, 3) := by decide +kernel
theorem d_P_differ_183 : decode b_P_differ 183 = .ok (.getfield 69, 3) := by decide +kernel
theorem d_P_differ_186 : decode b_P_differ 186 = .ok (.iload_n 1, 1) := by decide +kernel
theorem d_P_differ_187 : decode b_P_differ 187 = .ok (.iload_n 2, 1) := by decide +kernel
theorem d_P_differ_188 : decode b_P_differ 188 = .ok (.invokevirtual 139, 3) := by decide +kernel
theorem d_P_differ_191 : decode b_P_differ 191 = .ok (.ifCond .ne 7, 3) := by decide +kernel
theorem d_P_differ_194 : decode b_P_differ 194 = .ok (.iconst 1, 1) := by decide +kernel
theorem d_P_differ_195 : decode b_P_differ 195 = .ok (.goto 4, 3) := by decide +kernel
theorem d_P_differ_198 : decode b_P_differ 198 = .ok (.iconst 0, 1) := by decide +kernel
theorem d_P_differ_199 : decode b_P_differ 199 = .ok (.iconst 5, 1) := by decide +kernel
theorem d_P_differ_200 : decode b_P_differ 200 = .ok (.invokestatic 119, 3) := by decide +kernel
theorem d_P_differ_203 : decode b_P_differ 203 = .ok (.ior, 1) := by decide +kernel
theorem d_P_differ_204 : decode b_P_differ 204 = .ok (.aload_n 0, 1) := by decide +kernel
theorem d_P_differ_205 : decode b_P_differ 205 = .ok (.getfield 19, 3) := by decide +kernel
theorem d_P_differ_208 : decode b_P_differ 208 = .ok (.getfield 142, 3) := by decide +kernel
theorem d_P_differ_211 : decode b_P_differ 211 = .ok (.iload_n 1, 1) := by decide +kernel
theorem d_P_differ_212 : decode b_P_differ 212 = .ok (.iload_n 2, 1) := by decide +kernel
theorem d_P_differ_213 : decode b_P_differ 213 = .ok (.invokevirtual 139, 3) := by decide +kernel
theorem d_P_differ_216 : decode b_P_differ 216 = .ok (.ifCond .ne 7, 3) := by decide +kernel
theorem d_P_differ_219 : decode b_P_differ 219 = .ok (.iconst 1, 1) := by decide +kernel
theorem d_P_differ_220 : decode b_P_differ 220 = .ok (.goto 4, 3) := by decide +kernel
theorem d_P_differ_223 : decode b_P_differ 223 = .ok (.iconst 0, 1) := by decide +kernel
theorem d_P_differ_224 : decode b_P_differ 224 = .ok (.bipush 6, 2) := by decide +kernel
theorem d_P_differ_226 : decode b_P_differ 226 = .ok (.invokestatic 119, 3) := by decide +kernel
theorem d_P_differ_229 : decode b_P_differ 229 = .ok (.ior, 1) := by decide +kernel
theorem d_P_differ_230 : decode b_P_differ 230 = .ok (.ireturn, 1) := by decide +kernel
theorem d_P_clash_0 : decode b_P_clash 0 = .ok (.iload_n 2, 1) := by decide +kernel
theorem d_P_clash_1 : decode b_P_clash 1 = .ok (.ifCond .eq 10, 3) := by decide +kernel
theorem d_P_clash_4 : decode b_P_clash 4 = .ok (.iload_n 2, 1) := by decide +kernel
theorem d_P_clash_5 : decode b_P_clash 5 = .ok (.iconst 1, 1) := by decide +kernel
theorem d_P_clash_6 : decode b_P_clash 6 = .ok (.if_icmp .eq 5, 3) := by decide +kernel
theorem d_P_clash_9 : decode b_P_clash 9 = .ok (.iconst (-1), 1) := by decide +kernel
theorem d_P_clash_10 : decode b_P_clash 10 = .ok (.ireturn, 1) := by decide +kernel
theorem d_P_clash_11 : decode b_P_clash 11 = .ok (.iconst 0, 1) := by decide +kernel
theorem d_P_clash_12 : decode b_P_clash 12 = .ok (.istore_n 3, 1) := by decide +kernel
theorem d_P_clash_13 : decode b_P_clash 13 = .ok (.iconst 0, 1) := by decide +kernel
theorem d_P_clash_14 : decode b_P_clash 14 = .ok (.istore 4, 2) := by decide +kernel
theorem d_P_clash_16 : decode b_P_clash 16 = .ok (.iload 4, 2) := by decide +kernel
theorem d_P_clash_18 : decode b_P_clash 18 = .ok (.aload_n 0, 1) := by decide +kernel
theorem d_P_clash_19 : decode b_P_clash 19 = .ok (.getfield 19, 3) := by decide +kernel
theorem d_P_clash_22 : decode b_P_clash 22 = .ok (.getfield 108, 3) := by decide +kernel
theorem d_P_clash_25 : decode b_P_clash 25 = .ok (.if_icmp .ge 67, 3) := by decide +kernel
theorem d_P_clash_28 : decode b_P_clash 28 = .ok (.iload 4, 2) := by decide +kernel
theorem d_P_clash_30 : decode b_P_clash 30 = .ok (.iconst 1, 1) := by decide +kernel
theorem d_P_clash_31 : decode b_P_clash 31 = .ok (.iadd, 1) := by decide +kernel
theorem d_P_clash_32 : decode b_P_clash 32 = .ok (.istore 5, 2) := by decide +kernel
theorem d_P_clash_34 : decode b_P_clash 34 = .ok (.iload 5, 2) := by decide +kernel
theorem d_P_clash_36 : decode b_P_clash 36 = .ok (.aload_n 0, 1) := by decide +kernel
theorem d_P_clash_37 : decode b_P_clash 37 = .ok (.getfield 19, 3) := by decide +kernel
theorem d_P_clash_40 : decode b_P_clash 40 = .ok (.getfield 108, 3) := by decide +kernel
theorem d_P_clash_43 : decode b_P_clash 43 = .ok (.if_icmp .ge 43, 3) := by decide +kernel
theorem d_P_clash_46 : decode b_P_clash 46 = .ok (.aload_n 0, 1) := by decide +kernel
theorem d_P_clash_47 : decode b_P_clash 47 = .ok (.getfield 19, 3) := by decide +kernel
theorem d_P_clash_50 : decode b_P_clash 50 = .ok (.iload 4, 2) := by decide +kernel
theorem d_P_clash_52 : decode b_P_clash 52 = .ok (.iload 5, 2) := by decide +kernel
theorem d_P_clash_54 : decode b_P_clash 54 = .ok (.invokevirtual 145, 3) := by decide +kernel
theorem d_P_clash_57 : decode b_P_clash 57 = .ok (.ifCond .eq 23, 3) := by decide +kernel
theorem d_P_clash_60 : decode b_P_clash 60 = .ok (.iload_n 3, 1) := by decide +kernel
theorem d_P_clash_61 : decode b_P_clash 61 = .ok (.iload_n 1, 1) := by decide +kernel
theorem d_P_clash_62 : decode b_P_clash 62 = .ok (.if_icmp .ne 15, 3) := by decide +kernel
theorem d_P_clash_65 : decode b_P_clash 65 = .ok (.iload_n 2, 1) := by decide +kernel
theorem d_P_clash_66 : decode b_P_clash 66 = .ok (.ifCond .ne 8, 3) := by decide +kernel
theorem d_P_clash_69 : decode b_P_clash 69 = .ok (.iload 4, 2) := by decide +kernel
theorem d_P_clash_71 : decode b_P_clash 71 = .ok (.goto 5, 3) := by decide +kernel
theorem d_P_clash_74 : decode b_P_clash 74 = .ok (.iload 5, 2) := by decide +kernel
theorem d_P_clash_76 : decode b_P_clash 76 = .ok (.ireturn, 1) := by decide +kernel
theorem d_P_clash_77 : decode b_P_clash 77 = .ok (.iinc 3 1, 3) := by decide +kernel
theorem d_P_clash_80 : decode b_P_clash 80 = .ok (.iinc 5 1, 3) := by decide +kernel
theorem d_P_clash_83 : decode b_P_clash 83 = .ok (.goto (-49), 3) := by decide +kernel
theorem d_P_clash_86 : decode b_P_clash 86 = .ok (.iinc 4 1, 3) := by decide +kernel
theorem d_P_clash_89 : decode b_P_clash 89 = .ok (.goto (-73), 3) := by decide +kernel
theorem d_P_clash_92 : decode b_P_clash 92 = .ok (.iconst (-1), 1) := by decide +kernel
theorem d_P_clash_93 : decode b_P_clash 93 = .ok (.ireturn, 1) := by decide +kernel
theorem d_S_init_0 : decode b_S_init 0 = .ok (.aload_n 0, 1) := by decide +kernel
theorem d_S_init_1 : decode b_S_init 1 = .ok (.invokespecial 3, 3) := by decide +kernel
theorem d_S_init_4 : decode b_S_init 4 = .ok (.aload_n 0, 1) := by decide +kernel
theorem d_S_init_5 : decode b_S_init 5 = .ok (.bipush 24, 2) := by decide +kernel
theorem d_S_init_7 : decode b_S_init 7 = .ok (.newarray .long, 2) := by decide +kernel
theorem d_S_init_9 : decode b_S_init 9 = .ok (.putfield 9, 3) := by decide +kernel
theorem d_S_init_12 : decode b_S_init 12 = .ok (.aload_n 0, 1) := by decide +kernel
theorem d_S_init_13 : decode b_S_init 13 = .ok (.bipush 24, 2) := by decide +kernel
theorem d_S_init_15 : decode b_S_init 15 = .ok (.newarray .int, 2) := by decide +kernel
theorem d_S_init_17 : decode b_S_init 17 = .ok (.putfield 15, 3) := by decide +kernel
theorem d_S_init_20 : decode b_S_init 20 = .ok (.aload_n 0, 1) := by decide +kernel
theorem d_S_init_21 : decode b_S_init 21 = .ok (.bipush 24, 2) := by decide +kernel
theorem d_S_init_23 : decode b_S_init 23 = .ok (.newarray .int, 2) := by decide +kernel
theorem d_S_init_25 : decode b_S_init 25 = .ok (.putfield 19, 3) := by decide +kernel
theorem d_S_init_28 : decode b_S_init 28 = .ok (.aload_n 0, 1) := by decide +kernel
theorem d_S_init_29 : decode b_S_init 29 = .ok (.bipush 24, 2) := by decide +kernel
theorem d_S_init_31 : decode b_S_init 31 = .ok (.newarray .boolean, 2) := by decide +kernel
theorem d_S_init_33 : decode b_S_init 33 = .ok (.putfield 22, 3) := by decide +kernel
theorem d_S_init_36 : decode b_S_init 36 = .ok (.return_, 1) := by decide +kernel
theorem d_W_init_0 : decode b_W_init 0 = .ok (.aload_n 0, 1) := by decide +kernel
theorem d_W_init_1 : decode b_W_init 1 = .ok (.invokespecial 3, 3) := by decide +kernel
theorem d_W_init_4 : decode b_W_init 4 = .ok (.aload_n 0, 1) := by decide +kernel
theorem d_W_init_5 : decode b_W_init 5 = .ok (.bipush 32, 2) := by decide +kernel
theorem d_W_init_7 : decode b_W_init 7 = .ok (.newarray .int, 2) := by decide +kernel
theorem d_W_init_9 : decode b_W_init 9 = .ok (.putfield 9, 3) := by decide +kernel
theorem d_W_init_12 : decode b_W_init 12 = .ok (.aload_n 0, 1) := by decide +kernel
theorem d_W_init_13 : decode b_W_init 13 = .ok (.sipush 192, 3) := by decide +kernel
theorem d_W_init_16 : decode b_W_init 16 = .ok (.newarray .long, 2) := by decide +kernel
theorem d_W_init_18 : decode b_W_init 18 = .ok (.putfield 15, 3) := by decide +kernel
theorem d_W_init_21 : decode b_W_init 21 = .ok (.return_, 1) := by decide +kernel
theorem d_A_init_0 : decode b_A_init 0 = .ok (.aload_n 0, 1) := by decide +kernel
theorem d_A_init_1 : decode b_A_init 1 = .ok (.invokespecial 3, 3) := by decide +kernel
theorem d_A_init_4 : decode b_A_init 4 = .ok (.aload_n 0, 1) := by decide +kernel
theorem d_A_init_5 : decode b_A_init 5 = .ok (.bipush 32, 2) := by decide +kernel
theorem d_A_init_7 : decode b_A_init 7 = .ok (.newarray .long, 2) := by decide +kernel
theorem d_A_init_9 : decode b_A_init 9 = .ok (.putfield 9, 3) := by decide +kernel
theorem d_A_init_12 : decode b_A_init 12 = .ok (.aload_n 0, 1) := by decide +kernel
theorem d_A_init_13 : decode b_A_init 13 = .ok (.bipush 32, 2) := by decide +kernel
theorem d_A_init_15 : decode b_A_init 15 = .ok (.newarray .int, 2) := by decide +kernel
theorem d_A_init_17 : decode b_A_init 17 = .ok (.putfield 15, 3) := by decide +kernel
theorem d_A_init_20 : decode b_A_init 20 = .ok (.aload_n 0, 1) := by decide +kernel
theorem d_A_init_21 : decode b_A_init 21 = .ok (.bipush 32, 2) := by decide +kernel
theorem d_A_init_23 : decode b_A_init 23 = .ok (.newarray .int, 2) := by decide +kernel
theorem d_A_init_25 : decode b_A_init 25 = .ok (.putfield 19, 3) := by decide +kernel
theorem d_A_init_28 : decode b_A_init 28 = .ok (.aload_n 0, 1) := by decide +kernel
theorem d_A_init_29 : decode b_A_init 29 = .ok (.bipush 32, 2) := by decide +kernel
theorem d_A_init_31 : decode b_A_init 31 = .ok (.newarray .int, 2) := by decide +kernel
theorem d_A_init_33 : decode b_A_init 33 = .ok (.putfield 22, 3) := by decide +kernel
theorem d_A_init_36 : decode b_A_init 36 = .ok (.aload_n 0, 1) := by decide +kernel
theorem d_A_init_37 : decode b_A_init 37 = .ok (.bipush 32, 2) := by decide +kernel
theorem d_A_init_39 : decode b_A_init 39 = .ok (.newarray .int, 2) := by decide +kernel
theorem d_A_init_41 : decode b_A_init 41 = .ok (.putfield 25, 3) := by decide +kernel
theorem d_A_init_44 : decode b_A_init 44 = .ok (.aload_n 0, 1) := by decide +kernel
theorem d_A_init_45 : decode b_A_init 45 = .ok (.new 28, 3) := by decide +kernel
theorem d_A_init_48 : decode b_A_init 48 = .ok (.dup, 1) := by decide +kernel
theorem d_A_init_49 : decode b_A_init 49 = .ok (.invokespecial 30, 3) := by decide +kernel
theorem d_A_init_52 : decode b_A_init 52 = .ok (.putfield 31, 3) := by decide +kernel
theorem d_A_init_55 : decode b_A_init 55 = .ok (.aload_n 0, 1) := by decide +kernel
theorem d_A_init_56 : decode b_A_init 56 = .ok (.new 28, 3) := by decide +kernel
theorem d_A_init_59 : decode b_A_init 59 = .ok (.dup, 1) := by decide +kernel
theorem d_A_init_60 : decode b_A_init 60 = .ok (.invokespecial 30, 3) := by decide +kernel
theorem d_A_init_63 : decode b_A_init 63 = .ok (.putfield 35, 3) := by decide +kernel
theorem d_A_init_66 : decode b_A_init 66 = .ok (.aload_n 0, 1) := by decide +kernel
theorem d_A_init_67 : decode b_A_init 67 = .ok (.sipush 192, 3) := by decide +kernel
theorem d_A_init_70 : decode b_A_init 70 = .ok (.newarray .int, 2) := by decide +kernel
theorem d_A_init_72 : decode b_A_init 72 = .ok (.putfield 38, 3) := by decide +kernel
theorem d_A_init_75 : decode b_A_init 75 = .ok (.aload_n 0, 1) := by decide +kernel
theorem d_A_init_76 : decode b_A_init 76 = .ok (.bipush 32, 2) := by decide +kernel
theorem d_A_init_78 : decode b_A_init 78 = .ok (.newarray .int, 2) := by decide +kernel
theorem d_A_init_80 : decode b_A_init 80 = .ok (.putfield 41, 3) := by decide +kernel
theorem d_A_init_83 : decode b_A_init 83 = .ok (.aload_n 0, 1) := by decide +kernel
theorem d_A_init_84 : decode b_A_init 84 = .ok (.sipush 256, 3) := by decide +kernel
theorem d_A_init_87 : decode b_A_init 87 = .ok (.newarray .long, 2) := by decide +kernel
theorem d_A_init_89 : decode b_A_init 89 = .ok (.putfield 44, 3) := by decide +kernel
theorem d_A_init_92 : decode b_A_init 92 = .ok (.return_, 1) := by decide +kernel
theorem d_Y_init_0 : decode b_Y_init 0 = .ok (.aload_n 0, 1) := by decide +kernel
theorem d_Y_init_1 : decode b_Y_init 1 = .ok (.invokespecial 3, 3) := by decide +kernel
theorem d_Y_init_4 : decode b_Y_init 4 = .ok (.aload_n 0, 1) := by decide +kernel
theorem d_Y_init_5 : decode b_Y_init 5 = .ok (.bipush 16, 2) := by decide +kernel
theorem d_Y_init_7 : decode b_Y_init 7 = .ok (.newarray .int, 2) := by decide +kernel
theorem d_Y_init_9 : decode b_Y_init 9 = .ok (.putfield 9, 3) := by decide +kernel
theorem d_Y_init_12 : decode b_Y_init 12 = .ok (.aload_n 0, 1) := by decide +kernel
theorem d_Y_init_13 : decode b_Y_init 13 = .ok (.bipush 16, 2) := by decide +kernel
theorem d_Y_init_15 : decode b_Y_init 15 = .ok (.newarray .int, 2) := by decide +kernel
theorem d_Y_init_17 : decode b_Y_init 17 = .ok (.putfield 15, 3) := by decide +kernel
theorem d_Y_init_20 : decode b_Y_init 20 = .ok (.return_, 1) := by decide +kernel
theorem d_Q_init_0 : decode b_Q_init 0 = .ok (.aload_n 0, 1) := by decide +kernel
theorem d_Q_init_1 : decode b_Q_init 1 = .ok (.invokespecial 3, 3) := by decide +kernel
theorem d_Q_init_4 : decode b_Q_init 4 = .ok (.aload_n 0, 1) := by decide +kernel
theorem d_Q_init_5 : decode b_Q_init 5 = .ok (.bipush 32, 2) := by decide +kernel
theorem d_Q_init_7 : decode b_Q_init 7 = .ok (.newarray .int, 2) := by decide +kernel
theorem d_Q_init_9 : decode b_Q_init 9 = .ok (.putfield 9, 3) := by decide +kernel
theorem d_Q_init_12 : decode b_Q_init 12 = .ok (.return_, 1) := by decide +kernel
theorem d_P_init_0 : decode b_P_init 0 = .ok (.aload_n 0, 1) := by decide +kernel
theorem d_P_init_1 : decode b_P_init 1 = .ok (.invokespecial 1, 3) := by decide +kernel
theorem d_P_init_4 : decode b_P_init 4 = .ok (.aload_n 0, 1) := by decide +kernel
theorem d_P_init_5 : decode b_P_init 5 = .ok (.new 7, 3) := by decide +kernel
theorem d_P_init_8 : decode b_P_init 8 = .ok (.dup, 1) := by decide +kernel
theorem d_P_init_9 : decode b_P_init 9 = .ok (.invokespecial 9, 3) := by decide +kernel
theorem d_P_init_12 : decode b_P_init 12 = .ok (.putfield 10, 3) := by decide +kernel
theorem d_P_init_15 : decode b_P_init 15 = .ok (.aload_n 0, 1) := by decide +kernel
theorem d_P_init_16 : decode b_P_init 16 = .ok (.new 16, 3) := by decide +kernel
theorem d_P_init_19 : decode b_P_init 19 = .ok (.dup, 1) := by decide +kernel
theorem d_P_init_20 : decode b_P_init 20 = .ok (.invokespecial 18, 3) := by decide +kernel
theorem d_P_init_23 : decode b_P_init 23 = .ok (.putfield 19, 3) := by decide +kernel
theorem d_P_init_26 : decode b_P_init 26 = .ok (.aload_n 0, 1) := by decide +kernel
theorem d_P_init_27 : decode b_P_init 27 = .ok (.new 23, 3) := by decide +kernel
theorem d_P_init_30 : decode b_P_init 30 = .ok (.dup, 1) := by decide +kernel
theorem d_P_init_31 : decode b_P_init 31 = .ok (.invokespecial 25, 3) := by decide +kernel
theorem d_P_init_34 : decode b_P_init 34 = .ok (.putfield 26, 3) := by decide +kernel
theorem d_P_init_37 : decode b_P_init 37 = .ok (.aload_n 0, 1) := by decide +kernel
theorem d_P_init_38 : decode b_P_init 38 = .ok (.new 30, 3) := by decide +kernel
theorem d_P_init_41 : decode b_P_init 41 = .ok (.dup, 1) := by decide +kernel
theorem d_P_init_42 : decode b_P_init 42 = .ok (.invokespecial 32, 3) := by decide +kernel
theorem d_P_init_45 : decode b_P_init 45 = .ok (.putfield 33, 3) := by decide +kernel
theorem d_P_init_48 : decode b_P_init 48 = .ok (.aload_n 0, 1) := by decide +kernel
theorem d_P_init_49 : decode b_P_init 49 = .ok (.new 30, 3) := by decide +kernel
theorem d_P_init_52 : decode b_P_init 52 = .ok (.dup, 1) := by decide +kernel
theorem d_P_init_53 : decode b_P_init 53 = .ok (.invokespecial 32, 3) := by decide +kernel
theorem d_P_init_56 : decode b_P_init 56 = .ok (.putfield 37, 3) := by decide +kernel
theorem d_P_init_59 : decode b_P_init 59 = .ok (.aload_n 0, 1) := by decide +kernel
theorem d_P_init_60 : decode b_P_init 60 = .ok (.new 30, 3) := by decide +kernel
theorem d_P_init_63 : decode b_P_init 63 = .ok (.dup, 1) := by decide +kernel
theorem d_P_init_64 : decode b_P_init 64 = .ok (.invokespecial 32, 3) := by decide +kernel
theorem d_P_init_67 : decode b_P_init 67 = .ok (.putfield 40, 3) := by decide +kernel
theorem d_P_init_70 : decode b_P_init 70 = .ok (.aload_n 0, 1) := by decide +kernel
theorem d_P_init_71 : decode b_P_init 71 = .ok (.iconst (-1), 1) := by decide +kernel
theorem d_P_init_72 : decode b_P_init 72 = .ok (.putfield 43, 3) := by decide +kernel
theorem d_P_init_75 : decode b_P_init 75 = .ok (.return_, 1) := by decide +kernel
