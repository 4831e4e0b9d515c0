theorem d_M_within_0 : decode b_M_within 0 = .ok (.iload_n 0, 1) := by decide +kernel
theorem d_M_within_1 : decode b_M_within 1 = .ok (.iload_n 1, 1) := by decide +kernel
theorem d_M_within_2 : decode b_M_within 2 = .ok (.if_icmp .lt 12, 3) := by decide +kernel
theorem d_M_within_5 : decode b_M_within 5 = .ok (.iload_n 0, 1) := by decide +kernel
theorem d_M_within_6 : decode b_M_within 6 = .ok (.iload_n 2, 1) := by decide +kernel
theorem d_M_within_7 : decode b_M_within 7 = .ok (.if_icmp .gt 7, 3) := by decide +kernel
theorem d_M_within_10 : decode b_M_within 10 = .ok (.iconst 1, 1) := by decide +kernel
theorem d_M_within_11 : decode b_M_within 11 = .ok (.goto 4, 3) := by decide +kernel
theorem d_M_within_14 : decode b_M_within 14 = .ok (.iconst 0, 1) := by decide +kernel
theorem d_M_within_15 : decode b_M_within 15 = .ok (.ireturn, 1) := by decide +kernel
theorem d_M_source_0 : decode b_M_source 0 = .ok (.aload_n 0, 1) := by decide +kernel
theorem d_M_source_1 : decode b_M_source 1 = .ok (.getfield 79, 3) := by decide +kernel
theorem d_M_source_4 : decode b_M_source 4 = .ok (.bipush 24, 2) := by decide +kernel
theorem d_M_source_6 : decode b_M_source 6 = .ok (.if_icmp .eq 13, 3) := by decide +kernel
theorem d_M_source_9 : decode b_M_source 9 = .ok (.iload_n 3, 1) := by decide +kernel
theorem d_M_source_10 : decode b_M_source 10 = .ok (.iconst 0, 1) := by decide +kernel
theorem d_M_source_11 : decode b_M_source 11 = .ok (.bipush 7, 2) := by decide +kernel
theorem d_M_source_13 : decode b_M_source 13 = .ok (.invokestatic 82, 3) := by decide +kernel
theorem d_M_source_16 : decode b_M_source 16 = .ok (.ifCond .ne 5, 3) := by decide +kernel
theorem d_M_source_19 : decode b_M_source 19 = .ok (.iconst (-1), 1) := by decide +kernel
theorem d_M_source_20 : decode b_M_source 20 = .ok (.ireturn, 1) := by decide +kernel
theorem d_M_source_21 : decode b_M_source 21 = .ok (.aload_n 0, 1) := by decide +kernel
theorem d_M_source_22 : decode b_M_source 22 = .ok (.getfield 7, 3) := by decide +kernel
theorem d_M_source_25 : decode b_M_source 25 = .ok (.aload_n 0, 1) := by decide +kernel
theorem d_M_source_26 : decode b_M_source 26 = .ok (.getfield 79, 3) := by decide +kernel
theorem d_M_source_29 : decode b_M_source 29 = .ok (.lload_n 1, 1) := by decide +kernel
theorem d_M_source_30 : decode b_M_source 30 = .ok (.lastore, 1) := by decide +kernel
theorem d_M_source_31 : decode b_M_source 31 = .ok (.aload_n 0, 1) := by decide +kernel
theorem d_M_source_32 : decode b_M_source 32 = .ok (.getfield 13, 3) := by decide +kernel
theorem d_M_source_35 : decode b_M_source 35 = .ok (.aload_n 0, 1) := by decide +kernel
theorem d_M_source_36 : decode b_M_source 36 = .ok (.getfield 79, 3) := by decide +kernel
theorem d_M_source_39 : decode b_M_source 39 = .ok (.iload_n 3, 1) := by decide +kernel
theorem d_M_source_40 : decode b_M_source 40 = .ok (.iastore, 1) := by decide +kernel
theorem d_M_source_41 : decode b_M_source 41 = .ok (.aload_n 0, 1) := by decide +kernel
theorem d_M_source_42 : decode b_M_source 42 = .ok (.getfield 17, 3) := by decide +kernel
theorem d_M_source_45 : decode b_M_source 45 = .ok (.aload_n 0, 1) := by decide +kernel
theorem d_M_source_46 : decode b_M_source 46 = .ok (.getfield 79, 3) := by decide +kernel
theorem d_M_source_49 : decode b_M_source 49 = .ok (.iload 4, 2) := by decide +kernel
theorem d_M_source_51 : decode b_M_source 51 = .ok (.ldc 86, 2) := by decide +kernel
theorem d_M_source_53 : decode b_M_source 53 = .ok (.iand, 1) := by decide +kernel
theorem d_M_source_54 : decode b_M_source 54 = .ok (.iastore, 1) := by decide +kernel
theorem d_M_source_55 : decode b_M_source 55 = .ok (.aload_n 0, 1) := by decide +kernel
theorem d_M_source_56 : decode b_M_source 56 = .ok (.dup, 1) := by decide +kernel
theorem d_M_source_57 : decode b_M_source 57 = .ok (.getfield 79, 3) := by decide +kernel
theorem d_M_source_60 : decode b_M_source 60 = .ok (.iconst 1, 1) := by decide +kernel
theorem d_M_source_61 : decode b_M_source 61 = .ok (.iadd, 1) := by decide +kernel
theorem d_M_source_62 : decode b_M_source 62 = .ok (.putfield 79, 3) := by decide +kernel
theorem d_M_source_65 : decode b_M_source 65 = .ok (.aload_n 0, 1) := by decide +kernel
theorem d_M_source_66 : decode b_M_source 66 = .ok (.getfield 79, 3) := by decide +kernel
theorem d_M_source_69 : decode b_M_source 69 = .ok (.iconst 1, 1) := by decide +kernel
theorem d_M_source_70 : decode b_M_source 70 = .ok (.isub, 1) := by decide +kernel
theorem d_M_source_71 : decode b_M_source 71 = .ok (.ireturn, 1) := by decide +kernel
theorem d_M_isSource_0 : decode b_M_isSource 0 = .ok (.iload_n 1, 1) := by decide +kernel
theorem d_M_isSource_1 : decode b_M_isSource 1 = .ok (.ifCond .lt 15, 3) := by decide +kernel
theorem d_M_isSource_4 : decode b_M_isSource 4 = .ok (.iload_n 1, 1) := by decide +kernel
theorem d_M_isSource_5 : decode b_M_isSource 5 = .ok (.aload_n 0, 1) := by decide +kernel
theorem d_M_isSource_6 : decode b_M_isSource 6 = .ok (.getfield 79, 3) := by decide +kernel
theorem d_M_isSource_9 : decode b_M_isSource 9 = .ok (.if_icmp .ge 7, 3) := by decide +kernel
theorem d_M_isSource_12 : decode b_M_isSource 12 = .ok (.iconst 1, 1) := by decide +kernel
theorem d_M_isSource_13 : decode b_M_isSource 13 = .ok (.goto 4, 3) := by decide +kernel
theorem d_M_isSource_16 : decode b_M_isSource 16 = .ok (.iconst 0, 1) := by decide +kernel
theorem d_M_isSource_17 : decode b_M_isSource 17 = .ok (.ireturn, 1) := by decide +kernel
theorem d_M_fetched_0 : decode b_M_fetched 0 = .ok (.aload_n 0, 1) := by decide +kernel
theorem d_M_fetched_1 : decode b_M_fetched 1 = .ok (.iload_n 1, 1) := by decide +kernel
theorem d_M_fetched_2 : decode b_M_fetched 2 = .ok (.invokevirtual 87, 3) := by decide +kernel
theorem d_M_fetched_5 : decode b_M_fetched 5 = .ok (.ifCond .ne 5, 3) := by decide +kernel
theorem d_M_fetched_8 : decode b_M_fetched 8 = .ok (.iconst 0, 1) := by decide +kernel
theorem d_M_fetched_9 : decode b_M_fetched 9 = .ok (.ireturn, 1) := by decide +kernel
theorem d_M_fetched_10 : decode b_M_fetched 10 = .ok (.aload_n 0, 1) := by decide +kernel
theorem d_M_fetched_11 : decode b_M_fetched 11 = .ok (.getfield 20, 3) := by decide +kernel
theorem d_M_fetched_14 : decode b_M_fetched 14 = .ok (.iload_n 1, 1) := by decide +kernel
theorem d_M_fetched_15 : decode b_M_fetched 15 = .ok (.iload_n 2, 1) := by decide +kernel
theorem d_M_fetched_16 : decode b_M_fetched 16 = .ok (.ifCond .ne 7, 3) := by decide +kernel
theorem d_M_fetched_19 : decode b_M_fetched 19 = .ok (.iconst 1, 1) := by decide +kernel
theorem d_M_fetched_20 : decode b_M_fetched 20 = .ok (.goto 4, 3) := by decide +kernel
theorem d_M_fetched_23 : decode b_M_fetched 23 = .ok (.iconst 0, 1) := by decide +kernel
theorem d_M_fetched_24 : decode b_M_fetched 24 = .ok (.bastore, 1) := by decide +kernel
theorem d_M_fetched_25 : decode b_M_fetched 25 = .ok (.iconst 1, 1) := by decide +kernel
theorem d_M_fetched_26 : decode b_M_fetched 26 = .ok (.ireturn, 1) := by decide +kernel
theorem d_M_artefact_0 : decode b_M_artefact 0 = .ok (.iload_n 3, 1) := by decide +kernel
theorem d_M_artefact_1 : decode b_M_artefact 1 = .ok (.iconst (-1), 1) := by decide +kernel
theorem d_M_artefact_2 : decode b_M_artefact 2 = .ok (.bipush 7, 2) := by decide +kernel
theorem d_M_artefact_4 : decode b_M_artefact 4 = .ok (.invokestatic 82, 3) := by decide +kernel
theorem d_M_artefact_7 : decode b_M_artefact 7 = .ok (.ifCond .eq 40, 3) := by decide +kernel
theorem d_M_artefact_10 : decode b_M_artefact 10 = .ok (.iload 4, 2) := by decide +kernel
theorem d_M_artefact_12 : decode b_M_artefact 12 = .ok (.iconst 0, 1) := by decide +kernel
theorem d_M_artefact_13 : decode b_M_artefact 13 = .ok (.bipush 7, 2) := by decide +kernel
theorem d_M_artefact_15 : decode b_M_artefact 15 = .ok (.invokestatic 82, 3) := by decide +kernel
theorem d_M_artefact_18 : decode b_M_artefact 18 = .ok (.ifCond .eq 29, 3) := by decide +kernel
theorem d_M_artefact_21 : decode b_M_artefact 21 = .ok (.iload 5, 2) := by decide +kernel
theorem d_M_artefact_23 : decode b_M_artefact 23 = .ok (.iconst 0, 1) := by decide +kernel
theorem d_M_artefact_24 : decode b_M_artefact 24 = .ok (.bipush 15, 2) := by decide +kernel
theorem d_M_artefact_26 : decode b_M_artefact 26 = .ok (.invokestatic 82, 3) := by decide +kernel
theorem d_M_artefact_29 : decode b_M_artefact 29 = .ok (.ifCond .eq 18, 3) := by decide +kernel
theorem d_M_artefact_32 : decode b_M_artefact 32 = .ok (.iload 6, 2) := by decide +kernel
theorem d_M_artefact_34 : decode b_M_artefact 34 = .ok (.iconst 0, 1) := by decide +kernel
theorem d_M_artefact_35 : decode b_M_artefact 35 = .ok (.ldc 91, 2) := by decide +kernel
theorem d_M_artefact_37 : decode b_M_artefact 37 = .ok (.invokestatic 82, 3) := by decide +kernel
theorem d_M_artefact_40 : decode b_M_artefact 40 = .ok (.ifCond .eq 7, 3) := by decide +kernel
theorem d_M_artefact_43 : decode b_M_artefact 43 = .ok (.iconst 1, 1) := by decide +kernel
theorem d_M_artefact_44 : decode b_M_artefact 44 = .ok (.goto 4, 3) := by decide +kernel
theorem d_M_artefact_47 : decode b_M_artefact 47 = .ok (.iconst 0, 1) := by decide +kernel
theorem d_M_artefact_48 : decode b_M_artefact 48 = .ok (.istore 7, 2) := by decide +kernel
theorem d_M_artefact_50 : decode b_M_artefact 50 = .ok (.aload_n 0, 1) := by decide +kernel
theorem d_M_artefact_51 : decode b_M_artefact 51 = .ok (.getfield 76, 3) := by decide +kernel
theorem d_M_artefact_54 : decode b_M_artefact 54 = .ok (.bipush 32, 2) := by decide +kernel
theorem d_M_artefact_56 : decode b_M_artefact 56 = .ok (.if_icmp .eq 8, 3) := by decide +kernel
theorem d_M_artefact_59 : decode b_M_artefact 59 = .ok (.iload 7, 2) := by decide +kernel
theorem d_M_artefact_61 : decode b_M_artefact 61 = .ok (.ifCond .ne 5, 3) := by decide +kernel
theorem d_M_artefact_64 : decode b_M_artefact 64 = .ok (.iconst (-1), 1) := by decide +kernel
theorem d_M_artefact_65 : decode b_M_artefact 65 = .ok (.ireturn, 1) := by decide +kernel
theorem d_M_artefact_66 : decode b_M_artefact 66 = .ok (.aload_n 0, 1) := by decide +kernel
theorem d_M_artefact_67 : decode b_M_artefact 67 = .ok (.getfield 24, 3) := by decide +kernel
theorem d_M_artefact_70 : decode b_M_artefact 70 = .ok (.aload_n 0, 1) := by decide +kernel
theorem d_M_artefact_71 : decode b_M_artefact 71 = .ok (.getfield 76, 3) := by decide +kernel
theorem d_M_artefact_74 : decode b_M_artefact 74 = .ok (.lload_n 1, 1) := by decide +kernel
theorem d_M_artefact_75 : decode b_M_artefact 75 = .ok (.lastore, 1) := by decide +kernel
theorem d_M_artefact_76 : decode b_M_artefact 76 = .ok (.aload_n 0, 1) := by decide +kernel
theorem d_M_artefact_77 : decode b_M_artefact 77 = .ok (.getfield 33, 3) := by decide +kernel
theorem d_M_artefact_80 : decode b_M_artefact 80 = .ok (.aload_n 0, 1) := by decide +kernel
theorem d_M_artefact_81 : decode b_M_artefact 81 = .ok (.getfield 76, 3) := by decide +kernel
theorem d_M_artefact_84 : decode b_M_artefact 84 = .ok (.iload_n 3, 1) := by decide +kernel
theorem d_M_artefact_85 : decode b_M_artefact 85 = .ok (.iastore, 1) := by decide +kernel
theorem d_M_artefact_86 : decode b_M_artefact 86 = .ok (.aload_n 0, 1) := by decide +kernel
theorem d_M_artefact_87 : decode b_M_artefact 87 = .ok (.getfield 36, 3) := by decide +kernel
theorem d_M_artefact_90 : decode b_M_artefact 90 = .ok (.aload_n 0, 1) := by decide +kernel
theorem d_M_artefact_91 : decode b_M_artefact 91 = .ok (.getfield 76, 3) := by decide +kernel
theorem d_M_artefact_94 : decode b_M_artefact 94 = .ok (.iload 4, 2) := by decide +kernel
theorem d_M_artefact_96 : decode b_M_artefact 96 = .ok (.iastore, 1) := by decide +kernel
theorem d_M_artefact_97 : decode b_M_artefact 97 = .ok (.aload_n 0, 1) := by decide +kernel
theorem d_M_artefact_98 : decode b_M_artefact 98 = .ok (.getfield 39, 3) := by decide +kernel
theorem d_M_artefact_101 : decode b_M_artefact 101 = .ok (.aload_n 0, 1) := by decide +kernel
theorem d_M_artefact_102 : decode b_M_artefact 102 = .ok (.getfield 76, 3) := by decide +kernel
theorem d_M_artefact_105 : decode b_M_artefact 105 = .ok (.iload 5, 2) := by decide +kernel
theorem d_M_artefact_107 : decode b_M_artefact 107 = .ok (.iastore, 1) := by decide +kernel
theorem d_M_artefact_108 : decode b_M_artefact 108 = .ok (.aload_n 0, 1) := by decide +kernel
theorem d_M_artefact_109 : decode b_M_artefact 109 = .ok (.getfield 42, 3) := by decide +kernel
theorem d_M_artefact_112 : decode b_M_artefact 112 = .ok (.aload_n 0, 1) := by decide +kernel
theorem d_M_artefact_113 : decode b_M_artefact 113 = .ok (.getfield 76, 3) := by decide +kernel
theorem d_M_artefact_116 : decode b_M_artefact 116 = .ok (.iload 6, 2) := by decide +kernel
theorem d_M_artefact_118 : decode b_M_artefact 118 = .ok (.iastore, 1) := by decide +kernel
theorem d_M_artefact_119 : decode b_M_artefact 119 = .ok (.aload_n 0, 1) := by decide +kernel
theorem d_M_artefact_120 : decode b_M_artefact 120 = .ok (.dup, 1) := by decide +kernel
theorem d_M_artefact_121 : decode b_M_artefact 121 = .ok (.getfield 76, 3) := by decide +kernel
theorem d_M_artefact_124 : decode b_M_artefact 124 = .ok (.iconst 1, 1) := by decide +kernel
theorem d_M_artefact_125 : decode b_M_artefact 125 = .ok (.iadd, 1) := by decide +kernel
theorem d_M_artefact_126 : decode b_M_artefact 126 = .ok (.putfield 76, 3) := by decide +kernel
theorem d_M_artefact_129 : decode b_M_artefact 129 = .ok (.aload_n 0, 1) := by decide +kernel
theorem d_M_artefact_130 : decode b_M_artefact 130 = .ok (.getfield 76, 3) := by decide +kernel
theorem d_M_artefact_133 : decode b_M_artefact 133 = .ok (.iconst 1, 1) := by decide +kernel
theorem d_M_artefact_134 : decode b_M_artefact 134 = .ok (.isub, 1) := by decide +kernel
theorem d_M_artefact_135 : decode b_M_artefact 135 = .ok (.ireturn, 1) := by decide +kernel
theorem d_M_isArtefact_0 : decode b_M_isArtefact 0 = .ok (.iload_n 1, 1) := by decide +kernel
theorem d_M_isArtefact_1 : decode b_M_isArtefact 1 = .ok (.ifCond .lt 15, 3) := by decide +kernel
theorem d_M_isArtefact_4 : decode b_M_isArtefact 4 = .ok (.iload_n 1, 1) := by decide +kernel
theorem d_M_isArtefact_5 : decode b_M_isArtefact 5 = .ok (.aload_n 0, 1) := by decide +kernel
theorem d_M_isArtefact_6 : decode b_M_isArtefact 6 = .ok (.getfield 76, 3) := by decide +kernel
theorem d_M_isArtefact_9 : decode b_M_isArtefact 9 = .ok (.if_icmp .ge 7, 3) := by decide +kernel
theorem d_M_isArtefact_12 : decode b_M_isArtefact 12 = .ok (.iconst 1, 1) := by decide +kernel
theorem d_M_isArtefact_13 : decode b_M_isArtefact 13 = .ok (.goto 4, 3) := by decide +kernel
theorem d_M_isArtefact_16 : decode b_M_isArtefact 16 = .ok (.iconst 0, 1) := by decide +kernel
theorem d_M_isArtefact_17 : decode b_M_isArtefact 17 = .ok (.ireturn, 1) := by decide +kernel
theorem d_M_hasUse_0 : decode b_M_hasUse 0 = .ok (.iconst 0, 1) := by decide +kernel
theorem d_M_hasUse_1 : decode b_M_hasUse 1 = .ok (.istore_n 3, 1) := by decide +kernel
theorem d_M_hasUse_2 : decode b_M_hasUse 2 = .ok (.iconst 0, 1) := by decide +kernel
theorem d_M_hasUse_3 : decode b_M_hasUse 3 = .ok (.istore 4, 2) := by decide +kernel
theorem d_M_hasUse_5 : decode b_M_hasUse 5 = .ok (.iload 4, 2) := by decide +kernel
theorem d_M_hasUse_7 : decode b_M_hasUse 7 = .ok (.aload_n 0, 1) := by decide +kernel
theorem d_M_hasUse_8 : decode b_M_hasUse 8 = .ok (.getfield 45, 3) := by decide +kernel
theorem d_M_hasUse_11 : decode b_M_hasUse 11 = .ok (.iload_n 1, 1) := by decide +kernel
theorem d_M_hasUse_12 : decode b_M_hasUse 12 = .ok (.iaload, 1) := by decide +kernel
theorem d_M_hasUse_13 : decode b_M_hasUse 13 = .ok (.if_icmp .ge 35, 3) := by decide +kernel
theorem d_M_hasUse_16 : decode b_M_hasUse 16 = .ok (.iload_n 3, 1) := by decide +kernel
theorem d_M_hasUse_17 : decode b_M_hasUse 17 = .ok (.ifCond .ne 19, 3) := by decide +kernel
theorem d_M_hasUse_20 : decode b_M_hasUse 20 = .ok (.aload_n 0, 1) := by decide +kernel
theorem d_M_hasUse_21 : decode b_M_hasUse 21 = .ok (.getfield 48, 3) := by decide +kernel
theorem d_M_hasUse_24 : decode b_M_hasUse 24 = .ok (.bipush 6, 2) := by decide +kernel
theorem d_M_hasUse_26 : decode b_M_hasUse 26 = .ok (.iload_n 1, 1) := by decide +kernel
theorem d_M_hasUse_27 : decode b_M_hasUse 27 = .ok (.imul, 1) := by decide +kernel
theorem d_M_hasUse_28 : decode b_M_hasUse 28 = .ok (.iload 4, 2) := by decide +kernel
theorem d_M_hasUse_30 : decode b_M_hasUse 30 = .ok (.iadd, 1) := by decide +kernel
theorem d_M_hasUse_31 : decode b_M_hasUse 31 = .ok (.iaload, 1) := by decide +kernel
theorem d_M_hasUse_32 : decode b_M_hasUse 32 = .ok (.iload_n 2, 1) := by decide +kernel
theorem d_M_hasUse_33 : decode b_M_hasUse 33 = .ok (.if_icmp .ne 7, 3) := by decide +kernel
theorem d_M_hasUse_36 : decode b_M_hasUse 36 = .ok (.iconst 1, 1) := by decide +kernel
theorem d_M_hasUse_37 : decode b_M_hasUse 37 = .ok (.goto 4, 3) := by decide +kernel
theorem d_M_hasUse_40 : decode b_M_hasUse 40 = .ok (.iconst 0, 1) := by decide +kernel
theorem d_M_hasUse_41 : decode b_M_hasUse 41 = .ok (.istore_n 3, 1) := by decide +kernel
theorem d_M_hasUse_42 : decode b_M_hasUse 42 = .ok (.iinc 4 1, 3) := by decide +kernel
theorem d_M_hasUse_45 : decode b_M_hasUse 45 = .ok (.goto (-40), 3) := by decide +kernel
theorem d_M_hasUse_48 : decode b_M_hasUse 48 = .ok (.iload_n 3, 1) := by decide +kernel
theorem d_M_hasUse_49 : decode b_M_hasUse 49 = .ok (.ireturn, 1) := by decide +kernel
theorem d_M_uses_0 : decode b_M_uses 0 = .ok (.aload_n 0, 1) := by decide +kernel
theorem d_M_uses_1 : decode b_M_uses 1 = .ok (.iload_n 1, 1) := by decide +kernel
theorem d_M_uses_2 : decode b_M_uses 2 = .ok (.invokevirtual 92, 3) := by decide +kernel
theorem d_M_uses_5 : decode b_M_uses 5 = .ok (.ifCond .eq 31, 3) := by decide +kernel
theorem d_M_uses_8 : decode b_M_uses 8 = .ok (.aload_n 0, 1) := by decide +kernel
theorem d_M_uses_9 : decode b_M_uses 9 = .ok (.iload_n 2, 1) := by decide +kernel
theorem d_M_uses_10 : decode b_M_uses 10 = .ok (.invokevirtual 87, 3) := by decide +kernel
theorem d_M_uses_13 : decode b_M_uses 13 = .ok (.ifCond .eq 23, 3) := by decide +kernel
theorem d_M_uses_16 : decode b_M_uses 16 = .ok (.aload_n 0, 1) := by decide +kernel
theorem d_M_uses_17 : decode b_M_uses 17 = .ok (.iload_n 1, 1) := by decide +kernel
theorem d_M_uses_18 : decode b_M_uses 18 = .ok (.iload_n 2, 1) := by decide +kernel
theorem d_M_uses_19 : decode b_M_uses 19 = .ok (.invokevirtual 95, 3) := by decide +kernel
theorem d_M_uses_22 : decode b_M_uses 22 = .ok (.ifCond .ne 14, 3) := by decide +kernel
theorem d_M_uses_25 : decode b_M_uses 25 = .ok (.aload_n 0, 1) := by decide +kernel
theorem d_M_uses_26 : decode b_M_uses 26 = .ok (.getfield 45, 3) := by decide +kernel
theorem d_M_uses_29 : decode b_M_uses 29 = .ok (.iload_n 1, 1) := by decide +kernel
theorem d_M_uses_30 : decode b_M_uses 30 = .ok (.iaload, 1) := by decide +kernel
theorem d_M_uses_31 : decode b_M_uses 31 = .ok (.bipush 6, 2) := by decide +kernel
theorem d_M_uses_33 : decode b_M_uses 33 = .ok (.if_icmp .ne 5, 3) := by decide +kernel
theorem d_M_uses_36 : decode b_M_uses 36 = .ok (.iconst 0, 1) := by decide +kernel
theorem d_M_uses_37 : decode b_M_uses 37 = .ok (.ireturn, 1) := by decide +kernel
theorem d_M_uses_38 : decode b_M_uses 38 = .ok (.aload_n 0, 1) := by decide +kernel
theorem d_M_uses_39 : decode b_M_uses 39 = .ok (.getfield 48, 3) := by decide +kernel
theorem d_M_uses_42 : decode b_M_uses 42 = .ok (.bipush 6, 2) := by decide +kernel
theorem d_M_uses_44 : decode b_M_uses 44 = .ok (.iload_n 1, 1) := by decide +kernel
theorem d_M_uses_45 : decode b_M_uses 45 = .ok (.imul, 1) := by decide +kernel
theorem d_M_uses_46 : decode b_M_uses 46 = .ok (.aload_n 0, 1) := by decide +kernel
theorem d_M_uses_47 : decode b_M_uses 47 = .ok (.getfield 45, 3) := by decide +kernel
theorem d_M_uses_50 : decode b_M_uses 50 = .ok (.iload_n 1, 1) := by decide +kernel
theorem d_M_uses_51 : decode b_M_uses 51 = .ok (.iaload, 1) := by decide +kernel
theorem d_M_uses_52 : decode b_M_uses 52 = .ok (.iadd, 1) := by decide +kernel
theorem d_M_uses_53 : decode b_M_uses 53 = .ok (.iload_n 2, 1) := by decide +kernel
theorem d_M_uses_54 : decode b_M_uses 54 = .ok (.iastore, 1) := by decide +kernel
theorem d_M_uses_55 : decode b_M_uses 55 = .ok (.aload_n 0, 1) := by decide +kernel
theorem d_M_uses_56 : decode b_M_uses 56 = .ok (.getfield 45, 3) := by decide +kernel
theorem d_M_uses_59 : decode b_M_uses 59 = .ok (.iload_n 1, 1) := by decide +kernel
theorem d_M_uses_60 : decode b_M_uses 60 = .ok (.dup2, 1) := by decide +kernel
theorem d_M_uses_61 : decode b_M_uses 61 = .ok (.iaload, 1) := by decide +kernel
theorem d_M_uses_62 : decode b_M_uses 62 = .ok (.iconst 1, 1) := by decide +kernel
theorem d_M_uses_63 : decode b_M_uses 63 = .ok (.iadd, 1) := by decide +kernel
theorem d_M_uses_64 : decode b_M_uses 64 = .ok (.iastore, 1) := by decide +kernel
theorem d_M_uses_65 : decode b_M_uses 65 = .ok (.iconst 1, 1) := by decide +kernel
theorem d_M_uses_66 : decode b_M_uses 66 = .ok (.ireturn, 1) := by decide +kernel
theorem d_M_hasNeed_0 : decode b_M_hasNeed 0 = .ok (.iconst 0, 1) := by decide +kernel
theorem d_M_hasNeed_1 : decode b_M_hasNeed 1 = .ok (.istore 4, 2) := by decide +kernel
theorem d_M_hasNeed_3 : decode b_M_hasNeed 3 = .ok (.iconst 0, 1) := by decide +kernel
theorem d_M_hasNeed_4 : decode b_M_hasNeed 4 = .ok (.istore 5, 2) := by decide +kernel
theorem d_M_hasNeed_6 : decode b_M_hasNeed 6 = .ok (.iload 5, 2) := by decide +kernel
theorem d_M_hasNeed_8 : decode b_M_hasNeed 8 = .ok (.aload_n 0, 1) := by decide +kernel
theorem d_M_hasNeed_9 : decode b_M_hasNeed 9 = .ok (.getfield 51, 3) := by decide +kernel
theorem d_M_hasNeed_12 : decode b_M_hasNeed 12 = .ok (.iload_n 1, 1) := by decide +kernel
theorem d_M_hasNeed_13 : decode b_M_hasNeed 13 = .ok (.iaload, 1) := by decide +kernel
theorem d_M_hasNeed_14 : decode b_M_hasNeed 14 = .ok (.if_icmp .ge 38, 3) := by decide +kernel
theorem d_M_hasNeed_17 : decode b_M_hasNeed 17 = .ok (.iload 4, 2) := by decide +kernel
theorem d_M_hasNeed_19 : decode b_M_hasNeed 19 = .ok (.ifCond .ne 20, 3) := by decide +kernel
theorem d_M_hasNeed_22 : decode b_M_hasNeed 22 = .ok (.aload_n 0, 1) := by decide +kernel
theorem d_M_hasNeed_23 : decode b_M_hasNeed 23 = .ok (.getfield 27, 3) := by decide +kernel
theorem d_M_hasNeed_26 : decode b_M_hasNeed 26 = .ok (.bipush 6, 2) := by decide +kernel
theorem d_M_hasNeed_28 : decode b_M_hasNeed 28 = .ok (.iload_n 1, 1) := by decide +kernel
theorem d_M_hasNeed_29 : decode b_M_hasNeed 29 = .ok (.imul, 1) := by decide +kernel
theorem d_M_hasNeed_30 : decode b_M_hasNeed 30 = .ok (.iload 5, 2) := by decide +kernel
theorem d_M_hasNeed_32 : decode b_M_hasNeed 32 = .ok (.iadd, 1) := by decide +kernel
theorem d_M_hasNeed_33 : decode b_M_hasNeed 33 = .ok (.laload, 1) := by decide +kernel
theorem d_M_hasNeed_34 : decode b_M_hasNeed 34 = .ok (.lload_n 2, 1) := by decide +kernel
theorem d_M_hasNeed_35 : decode b_M_hasNeed 35 = .ok (.lcmp, 1) := by decide +kernel
theorem d_M_hasNeed_36 : decode b_M_hasNeed 36 = .ok (.ifCond .ne 7, 3) := by decide +kernel
theorem d_M_hasNeed_39 : decode b_M_hasNeed 39 = .ok (.iconst 1, 1) := by decide +kernel
theorem d_M_hasNeed_40 : decode b_M_hasNeed 40 = .ok (.goto 4, 3) := by decide +kernel
theorem d_M_hasNeed_43 : decode b_M_hasNeed 43 = .ok (.iconst 0, 1) := by decide +kernel
theorem d_M_hasNeed_44 : decode b_M_hasNeed 44 = .ok (.istore 4, 2) := by decide +kernel
theorem d_M_hasNeed_46 : decode b_M_hasNeed 46 = .ok (.iinc 5 1, 3) := by decide +kernel
theorem d_M_hasNeed_49 : decode b_M_hasNeed 49 = .ok (.goto (-43), 3) := by decide +kernel
theorem d_M_hasNeed_52 : decode b_M_hasNeed 52 = .ok (.iload 4, 2) := by decide +kernel
theorem d_M_hasNeed_54 : decode b_M_hasNeed 54 = .ok (.ireturn, 1) := by decide +kernel
theorem d_M_needs_0 : decode b_M_needs 0 = .ok (.aload_n 0, 1) := by decide +kernel
theorem d_M_needs_1 : decode b_M_needs 1 = .ok (.iload_n 1, 1) := by decide +kernel
theorem d_M_needs_2 : decode b_M_needs 2 = .ok (.invokevirtual 92, 3) := by decide +kernel
theorem d_M_needs_5 : decode b_M_needs 5 = .ok (.ifCond .eq 23, 3) := by decide +kernel
theorem d_M_needs_8 : decode b_M_needs 8 = .ok (.aload_n 0, 1) := by decide +kernel
theorem d_M_needs_9 : decode b_M_needs 9 = .ok (.iload_n 1, 1) := by decide +kernel
theorem d_M_needs_10 : decode b_M_needs 10 = .ok (.lload_n 2, 1) := by decide +kernel
theorem d_M_needs_11 : decode b_M_needs 11 = .ok (.invokevirtual 99, 3) := by decide +kernel
theorem d_M_needs_14 : decode b_M_needs 14 = .ok (.ifCond .ne 14, 3) := by decide +kernel
theorem d_M_needs_17 : decode b_M_needs 17 = .ok (.aload_n 0, 1) := by decide +kernel
theorem d_M_needs_18 : decode b_M_needs 18 = .ok (.getfield 51, 3) := by decide +kernel
theorem d_M_needs_21 : decode b_M_needs 21 = .ok (.iload_n 1, 1) := by decide +kernel
theorem d_M_needs_22 : decode b_M_needs 22 = .ok (.iaload, 1) := by decide +kernel
theorem d_M_needs_23 : decode b_M_needs 23 = .ok (.bipush 6, 2) := by decide +kernel
theorem d_M_needs_25 : decode b_M_needs 25 = .ok (.if_icmp .ne 5, 3) := by decide +kernel
theorem d_M_needs_28 : decode b_M_needs 28 = .ok (.iconst 0, 1) := by decide +kernel
theorem d_M_needs_29 : decode b_M_needs 29 = .ok (.ireturn, 1) := by decide +kernel
theorem d_M_needs_30 : decode b_M_needs 30 = .ok (.aload_n 0, 1) := by decide +kernel
theorem d_M_needs_31 : decode b_M_needs 31 = .ok (.getfield 27, 3) := by decide +kernel
theorem d_M_needs_34 : decode b_M_needs 34 = .ok (.bipush 6, 2) := by decide +kernel
theorem d_M_needs_36 : decode b_M_needs 36 = .ok (.iload_n 1, 1) := by decide +kernel
theorem d_M_needs_37 : decode b_M_needs 37 = .ok (.imul, 1) := by decide +kernel
theorem d_M_needs_38 : decode b_M_needs 38 = .ok (.aload_n 0, 1) := by decide +kernel
theorem d_M_needs_39 : decode b_M_needs 39 = .ok (.getfield 51, 3) := by decide +kernel
theorem d_M_needs_42 : decode b_M_needs 42 = .ok (.iload_n 1, 1) := by decide +kernel
theorem d_M_needs_43 : decode b_M_needs 43 = .ok (.iaload, 1) := by decide +kernel
theorem d_M_needs_44 : decode b_M_needs 44 = .ok (.iadd, 1) := by decide +kernel
theorem d_M_needs_45 : decode b_M_needs 45 = .ok (.lload_n 2, 1) := by decide +kernel
theorem d_M_needs_46 : decode b_M_needs 46 = .ok (.lastore, 1) := by decide +kernel
theorem d_M_needs_47 : decode b_M_needs 47 = .ok (.aload_n 0, 1) := by decide +kernel
theorem d_M_needs_48 : decode b_M_needs 48 = .ok (.getfield 51, 3) := by decide +kernel
theorem d_M_needs_51 : decode b_M_needs 51 = .ok (.iload_n 1, 1) := by decide +kernel
theorem d_M_needs_52 : decode b_M_needs 52 = .ok (.dup2, 1) := by decide +kernel
theorem d_M_needs_53 : decode b_M_needs 53 = .ok (.iaload, 1) := by decide +kernel
theorem d_M_needs_54 : decode b_M_needs 54 = .ok (.iconst 1, 1) := by decide +kernel
theorem d_M_needs_55 : decode b_M_needs 55 = .ok (.iadd, 1) := by decide +kernel
theorem d_M_needs_56 : decode b_M_needs 56 = .ok (.iastore, 1) := by decide +kernel
theorem d_M_needs_57 : decode b_M_needs 57 = .ok (.iconst 1, 1) := by decide +kernel
theorem d_M_needs_58 : decode b_M_needs 58 = .ok (.ireturn, 1) := by decide +kernel
theorem d_M_path_0 : decode b_M_path 0 = .ok (.aload_n 0, 1) := by decide +kernel
theorem d_M_path_1 : decode b_M_path 1 = .ok (.iload_n 1, 1) := by decide +kernel
theorem d_M_path_2 : decode b_M_path 2 = .ok (.invokevirtual 92, 3) := by decide +kernel
theorem d_M_path_5 : decode b_M_path 5 = .ok (.ifCond .eq 13, 3) := by decide +kernel
theorem d_M_path_8 : decode b_M_path 8 = .ok (.iload_n 2, 1) := by decide +kernel
theorem d_M_path_9 : decode b_M_path 9 = .ok (.iconst 0, 1) := by decide +kernel
theorem d_M_path_10 : decode b_M_path 10 = .ok (.bipush 7, 2) := by decide +kernel
theorem d_M_path_12 : decode b_M_path 12 = .ok (.invokestatic 82, 3) := by decide +kernel
theorem d_M_path_15 : decode b_M_path 15 = .ok (.ifCond .ne 5, 3) := by decide +kernel
theorem d_M_path_18 : decode b_M_path 18 = .ok (.iconst 0, 1) := by decide +kernel
theorem d_M_path_19 : decode b_M_path 19 = .ok (.ireturn, 1) := by decide +kernel
theorem d_M_path_20 : decode b_M_path 20 = .ok (.aload_n 0, 1) := by decide +kernel
theorem d_M_path_21 : decode b_M_path 21 = .ok (.getfield 54, 3) := by decide +kernel
theorem d_M_path_24 : decode b_M_path 24 = .ok (.iload_n 1, 1) := by decide +kernel
theorem d_M_path_25 : decode b_M_path 25 = .ok (.aload_n 0, 1) := by decide +kernel
theorem d_M_path_26 : decode b_M_path 26 = .ok (.getfield 54, 3) := by decide +kernel
theorem d_M_path_29 : decode b_M_path 29 = .ok (.iload_n 1, 1) := by decide +kernel
theorem d_M_path_30 : decode b_M_path 30 = .ok (.iaload, 1) := by decide +kernel
theorem d_M_path_31 : decode b_M_path 31 = .ok (.iconst 1, 1) := by decide +kernel
theorem d_M_path_32 : decode b_M_path 32 = .ok (.iload_n 2, 1) := by decide +kernel
theorem d_M_path_33 : decode b_M_path 33 = .ok (.ishl, 1) := by decide +kernel
theorem d_M_path_34 : decode b_M_path 34 = .ok (.ior, 1) := by decide +kernel
theorem d_M_path_35 : decode b_M_path 35 = .ok (.iastore, 1) := by decide +kernel
theorem d_M_path_36 : decode b_M_path 36 = .ok (.aload_n 0, 1) := by decide +kernel
theorem d_M_path_37 : decode b_M_path 37 = .ok (.getfield 30, 3) := by decide +kernel
theorem d_M_path_40 : decode b_M_path 40 = .ok (.bipush 8, 2) := by decide +kernel
theorem d_M_path_42 : decode b_M_path 42 = .ok (.iload_n 1, 1) := by decide +kernel
theorem d_M_path_43 : decode b_M_path 43 = .ok (.imul, 1) := by decide +kernel
theorem d_M_path_44 : decode b_M_path 44 = .ok (.iload_n 2, 1) := by decide +kernel
theorem d_M_path_45 : decode b_M_path 45 = .ok (.iadd, 1) := by decide +kernel
theorem d_M_path_46 : decode b_M_path 46 = .ok (.lload_n 3, 1) := by decide +kernel
theorem d_M_path_47 : decode b_M_path 47 = .ok (.lastore, 1) := by decide +kernel
theorem d_M_path_48 : decode b_M_path 48 = .ok (.iconst 1, 1) := by decide +kernel
theorem d_M_path_49 : decode b_M_path 49 = .ok (.ireturn, 1) := by decide +kernel
theorem d_M_policy_0 : decode b_M_policy 0 = .ok (.aload_n 0, 1) := by decide +kernel
theorem d_M_policy_1 : decode b_M_policy 1 = .ok (.getfield 103, 3) := by decide +kernel
theorem d_M_policy_4 : decode b_M_policy 4 = .ok (.bipush 16, 2) := by decide +kernel
theorem d_M_policy_6 : decode b_M_policy 6 = .ok (.if_icmp .eq 13, 3) := by decide +kernel
theorem d_M_policy_9 : decode b_M_policy 9 = .ok (.iload_n 1, 1) := by decide +kernel
theorem d_M_policy_10 : decode b_M_policy 10 = .ok (.iconst 0, 1) := by decide +kernel
theorem d_M_policy_11 : decode b_M_policy 11 = .ok (.bipush 9, 2) := by decide +kernel
theorem d_M_policy_13 : decode b_M_policy 13 = .ok (.invokestatic 82, 3) := by decide +kernel
theorem d_M_policy_16 : decode b_M_policy 16 = .ok (.ifCond .ne 5, 3) := by decide +kernel
theorem d_M_policy_19 : decode b_M_policy 19 = .ok (.iconst (-1), 1) := by decide +kernel
theorem d_M_policy_20 : decode b_M_policy 20 = .ok (.ireturn, 1) := by decide +kernel
theorem d_M_policy_21 : decode b_M_policy 21 = .ok (.aload_n 0, 1) := by decide +kernel
theorem d_M_policy_22 : decode b_M_policy 22 = .ok (.getfield 57, 3) := by decide +kernel
theorem d_M_policy_25 : decode b_M_policy 25 = .ok (.aload_n 0, 1) := by decide +kernel
theorem d_M_policy_26 : decode b_M_policy 26 = .ok (.getfield 103, 3) := by decide +kernel
theorem d_M_policy_29 : decode b_M_policy 29 = .ok (.iload_n 1, 1) := by decide +kernel
theorem d_M_policy_30 : decode b_M_policy 30 = .ok (.iastore, 1) := by decide +kernel
theorem d_M_policy_31 : decode b_M_policy 31 = .ok (.aload_n 0, 1) := by decide +kernel
theorem d_M_policy_32 : decode b_M_policy 32 = .ok (.getfield 60, 3) := by decide +kernel
theorem d_M_policy_35 : decode b_M_policy 35 = .ok (.aload_n 0, 1) := by decide +kernel
theorem d_M_policy_36 : decode b_M_policy 36 = .ok (.getfield 103, 3) := by decide +kernel
theorem d_M_policy_39 : decode b_M_policy 39 = .ok (.iload_n 2, 1) := by decide +kernel
theorem d_M_policy_40 : decode b_M_policy 40 = .ok (.iastore, 1) := by decide +kernel
theorem d_M_policy_41 : decode b_M_policy 41 = .ok (.aload_n 0, 1) := by decide +kernel
theorem d_M_policy_42 : decode b_M_policy 42 = .ok (.dup, 1) := by decide +kernel
theorem d_M_policy_43 : decode b_M_policy 43 = .ok (.getfield 103, 3) := by decide +kernel
theorem d_M_policy_46 : decode b_M_policy 46 = .ok (.iconst 1, 1) := by decide +kernel
theorem d_M_policy_47 : decode b_M_policy 47 = .ok (.iadd, 1) := by decide +kernel
theorem d_M_policy_48 : decode b_M_policy 48 = .ok (.putfield 103, 3) := by decide +kernel
theorem d_M_policy_51 : decode b_M_policy 51 = .ok (.aload_n 0, 1) := by decide +kernel
theorem d_M_policy_52 : decode b_M_policy 52 = .ok (.getfield 103, 3) := by decide +kernel
theorem d_M_policy_55 : decode b_M_policy 55 = .ok (.iconst 1, 1) := by decide +kernel
theorem d_M_policy_56 : decode b_M_policy 56 = .ok (.isub, 1) := by decide +kernel
theorem d_M_policy_57 : decode b_M_policy 57 = .ok (.ireturn, 1) := by decide +kernel
theorem d_M_come_0 : decode b_M_come 0 = .ok (.iconst 0, 1) := by decide +kernel
theorem d_M_come_1 : decode b_M_come 1 = .ok (.istore_n 2, 1) := by decide +kernel
theorem d_M_come_2 : decode b_M_come 2 = .ok (.iload_n 2, 1) := by decide +kernel
theorem d_M_come_3 : decode b_M_come 3 = .ok (.aload_n 0, 1) := by decide +kernel
theorem d_M_come_4 : decode b_M_come 4 = .ok (.getfield 106, 3) := by decide +kernel
theorem d_M_come_7 : decode b_M_come 7 = .ok (.if_icmp .ge 20, 3) := by decide +kernel
theorem d_M_come_10 : decode b_M_come 10 = .ok (.aload_n 0, 1) := by decide +kernel
theorem d_M_come_11 : decode b_M_come 11 = .ok (.getfield 67, 3) := by decide +kernel
theorem d_M_come_14 : decode b_M_come 14 = .ok (.iload_n 2, 1) := by decide +kernel
theorem d_M_come_15 : decode b_M_come 15 = .ok (.iaload, 1) := by decide +kernel
theorem d_M_come_16 : decode b_M_come 16 = .ok (.iload_n 1, 1) := by decide +kernel
theorem d_M_come_17 : decode b_M_come 17 = .ok (.if_icmp .ne 4, 3) := by decide +kernel
theorem d_M_come_20 : decode b_M_come 20 = .ok (.return_, 1) := by decide +kernel
theorem d_M_come_21 : decode b_M_come 21 = .ok (.iinc 2 1, 3) := by decide +kernel
theorem d_M_come_24 : decode b_M_come 24 = .ok (.goto (-22), 3) := by decide +kernel
theorem d_M_come_27 : decode b_M_come 27 = .ok (.aload_n 0, 1) := by decide +kernel
theorem d_M_come_28 : decode b_M_come 28 = .ok (.getfield 67, 3) := by decide +kernel
theorem d_M_come_31 : decode b_M_come 31 = .ok (.aload_n 0, 1) := by decide +kernel
theorem d_M_come_32 : decode b_M_come 32 = .ok (.getfield 106, 3) := by decide +kernel
theorem d_M_come_35 : decode b_M_come 35 = .ok (.iload_n 1, 1) := by decide +kernel
theorem d_M_come_36 : decode b_M_come 36 = .ok (.iastore, 1) := by decide +kernel
theorem d_M_come_37 : decode b_M_come 37 = .ok (.aload_n 0, 1) := by decide +kernel
theorem d_M_come_38 : decode b_M_come 38 = .ok (.dup, 1) := by decide +kernel
theorem d_M_come_39 : decode b_M_come 39 = .ok (.getfield 106, 3) := by decide +kernel
theorem d_M_come_42 : decode b_M_come 42 = .ok (.iconst 1, 1) := by decide +kernel
theorem d_M_come_43 : decode b_M_come 43 = .ok (.iadd, 1) := by decide +kernel
theorem d_M_come_44 : decode b_M_come 44 = .ok (.putfield 106, 3) := by decide +kernel
theorem d_M_come_47 : decode b_M_come 47 = .ok (.return_, 1) := by decide +kernel
theorem d_M_meets_0 : decode b_M_meets 0 = .ok (.iconst 0, 1) := by decide +kernel
theorem d_M_meets_1 : decode b_M_meets 1 = .ok (.istore_n 3, 1) := by decide +kernel
theorem d_M_meets_2 : decode b_M_meets 2 = .ok (.iload_n 3, 1) := by decide +kernel
theorem d_M_meets_3 : decode b_M_meets 3 = .ok (.aload_n 0, 1) := by decide +kernel
theorem d_M_meets_4 : decode b_M_meets 4 = .ok (.getfield 76, 3) := by decide +kernel
theorem d_M_meets_7 : decode b_M_meets 7 = .ok (.if_icmp .ge 20, 3) := by decide +kernel
theorem d_M_meets_10 : decode b_M_meets 10 = .ok (.aload_n 0, 1) := by decide +kernel
theorem d_M_meets_11 : decode b_M_meets 11 = .ok (.getfield 24, 3) := by decide +kernel
theorem d_M_meets_14 : decode b_M_meets 14 = .ok (.iload_n 3, 1) := by decide +kernel
theorem d_M_meets_15 : decode b_M_meets 15 = .ok (.laload, 1) := by decide +kernel
theorem d_M_meets_16 : decode b_M_meets 16 = .ok (.lload_n 1, 1) := by decide +kernel
theorem d_M_meets_17 : decode b_M_meets 17 = .ok (.lcmp, 1) := by decide +kernel
theorem d_M_meets_18 : decode b_M_meets 18 = .ok (.ifCond .eq 9, 3) := by decide +kernel
theorem d_M_meets_21 : decode b_M_meets 21 = .ok (.iinc 3 1, 3) := by decide +kernel
theorem d_M_meets_24 : decode b_M_meets 24 = .ok (.goto (-22), 3) := by decide +kernel
theorem d_M_meets_27 : decode b_M_meets 27 = .ok (.iload_n 3, 1) := by decide +kernel
theorem d_M_meets_28 : decode b_M_meets 28 = .ok (.aload_n 0, 1) := by decide +kernel
theorem d_M_meets_29 : decode b_M_meets 29 = .ok (.getfield 76, 3) := by decide +kernel
theorem d_M_meets_32 : decode b_M_meets 32 = .ok (.if_icmp .ge 7, 3) := by decide +kernel
theorem d_M_meets_35 : decode b_M_meets 35 = .ok (.iload_n 3, 1) := by decide +kernel
theorem d_M_meets_36 : decode b_M_meets 36 = .ok (.goto 4, 3) := by decide +kernel
theorem d_M_meets_39 : decode b_M_meets 39 = .ok (.iconst (-1), 1) := by decide +kernel
theorem d_M_meets_40 : decode b_M_meets 40 = .ok (.ireturn, 1) := by decide +kernel
theorem d_M_goAlong_0 : decode b_M_goAlong 0 = .ok (.aload_n 0, 1) := by decide +kernel
theorem d_M_goAlong_1 : decode b_M_goAlong 1 = .ok (.iconst 0, 1) := by decide +kernel
theorem d_M_goAlong_2 : decode b_M_goAlong 2 = .ok (.putfield 106, 3) := by decide +kernel
theorem d_M_goAlong_5 : decode b_M_goAlong 5 = .ok (.aload_n 0, 1) := by decide +kernel
theorem d_M_goAlong_6 : decode b_M_goAlong 6 = .ok (.iload_n 1, 1) := by decide +kernel
theorem d_M_goAlong_7 : decode b_M_goAlong 7 = .ok (.invokevirtual 109, 3) := by decide +kernel
theorem d_M_goAlong_10 : decode b_M_goAlong 10 = .ok (.iconst 0, 1) := by decide +kernel
theorem d_M_goAlong_11 : decode b_M_goAlong 11 = .ok (.istore_n 2, 1) := by decide +kernel
theorem d_M_goAlong_12 : decode b_M_goAlong 12 = .ok (.iload_n 2, 1) := by decide +kernel
theorem d_M_goAlong_13 : decode b_M_goAlong 13 = .ok (.aload_n 0, 1) := by decide +kernel
theorem d_M_goAlong_14 : decode b_M_goAlong 14 = .ok (.getfield 106, 3) := by decide +kernel
theorem d_M_goAlong_17 : decode b_M_goAlong 17 = .ok (.if_icmp .ge 90, 3) := by decide +kernel
theorem d_M_goAlong_20 : decode b_M_goAlong 20 = .ok (.aload_n 0, 1) := by decide +kernel
theorem d_M_goAlong_21 : decode b_M_goAlong 21 = .ok (.getfield 106, 3) := by decide +kernel
theorem d_M_goAlong_24 : decode b_M_goAlong 24 = .ok (.istore_n 3, 1) := by decide +kernel
theorem d_M_goAlong_25 : decode b_M_goAlong 25 = .ok (.iload_n 2, 1) := by decide +kernel
theorem d_M_goAlong_26 : decode b_M_goAlong 26 = .ok (.istore 4, 2) := by decide +kernel
theorem d_M_goAlong_28 : decode b_M_goAlong 28 = .ok (.iload 4, 2) := by decide +kernel
theorem d_M_goAlong_30 : decode b_M_goAlong 30 = .ok (.iload_n 3, 1) := by decide +kernel
theorem d_M_goAlong_31 : decode b_M_goAlong 31 = .ok (.if_icmp .ge 71, 3) := by decide +kernel
theorem d_M_goAlong_34 : decode b_M_goAlong 34 = .ok (.iconst 0, 1) := by decide +kernel
theorem d_M_goAlong_35 : decode b_M_goAlong 35 = .ok (.istore 5, 2) := by decide +kernel
theorem d_M_goAlong_37 : decode b_M_goAlong 37 = .ok (.iload 5, 2) := by decide +kernel
theorem d_M_goAlong_39 : decode b_M_goAlong 39 = .ok (.aload_n 0, 1) := by decide +kernel
theorem d_M_goAlong_40 : decode b_M_goAlong 40 = .ok (.getfield 51, 3) := by decide +kernel
theorem d_M_goAlong_43 : decode b_M_goAlong 43 = .ok (.aload_n 0, 1) := by decide +kernel
theorem d_M_goAlong_44 : decode b_M_goAlong 44 = .ok (.getfield 67, 3) := by decide +kernel
theorem d_M_goAlong_47 : decode b_M_goAlong 47 = .ok (.iload 4, 2) := by decide +kernel
theorem d_M_goAlong_49 : decode b_M_goAlong 49 = .ok (.iaload, 1) := by decide +kernel
theorem d_M_goAlong_50 : decode b_M_goAlong 50 = .ok (.iaload, 1) := by decide +kernel
theorem d_M_goAlong_51 : decode b_M_goAlong 51 = .ok (.if_icmp .ge 45, 3) := by decide +kernel
theorem d_M_goAlong_54 : decode b_M_goAlong 54 = .ok (.aload_n 0, 1) := by decide +kernel
theorem d_M_goAlong_55 : decode b_M_goAlong 55 = .ok (.aload_n 0, 1) := by decide +kernel
theorem d_M_goAlong_56 : decode b_M_goAlong 56 = .ok (.getfield 27, 3) := by decide +kernel
theorem d_M_goAlong_59 : decode b_M_goAlong 59 = .ok (.bipush 6, 2) := by decide +kernel
theorem d_M_goAlong_61 : decode b_M_goAlong 61 = .ok (.aload_n 0, 1) := by decide +kernel
theorem d_M_goAlong_62 : decode b_M_goAlong 62 = .ok (.getfield 67, 3) := by decide +kernel
theorem d_M_goAlong_65 : decode b_M_goAlong 65 = .ok (.iload 4, 2) := by decide +kernel
theorem d_M_goAlong_67 : decode b_M_goAlong 67 = .ok (.iaload, 1) := by decide +kernel
theorem d_M_goAlong_68 : decode b_M_goAlong 68 = .ok (.imul, 1) := by decide +kernel
theorem d_M_goAlong_69 : decode b_M_goAlong 69 = .ok (.iload 5, 2) := by decide +kernel
theorem d_M_goAlong_71 : decode b_M_goAlong 71 = .ok (.iadd, 1) := by decide +kernel
theorem d_M_goAlong_72 : decode b_M_goAlong 72 = .ok (.laload, 1) := by decide +kernel
theorem d_M_goAlong_73 : decode b_M_goAlong 73 = .ok (.invokevirtual 113, 3) := by decide +kernel
theorem d_M_goAlong_76 : decode b_M_goAlong 76 = .ok (.istore 6, 2) := by decide +kernel
theorem d_M_goAlong_78 : decode b_M_goAlong 78 = .ok (.iload 6, 2) := by decide +kernel
theorem d_M_goAlong_80 : decode b_M_goAlong 80 = .ok (.iconst (-1), 1) := by decide +kernel
theorem d_M_goAlong_81 : decode b_M_goAlong 81 = .ok (.if_icmp .eq 9, 3) := by decide +kernel
theorem d_M_goAlong_84 : decode b_M_goAlong 84 = .ok (.aload_n 0, 1) := by decide +kernel
theorem d_M_goAlong_85 : decode b_M_goAlong 85 = .ok (.iload 6, 2) := by decide +kernel
theorem d_M_goAlong_87 : decode b_M_goAlong 87 = .ok (.invokevirtual 109, 3) := by decide +kernel
theorem d_M_goAlong_90 : decode b_M_goAlong 90 = .ok (.iinc 5 1, 3) := by decide +kernel
theorem d_M_goAlong_93 : decode b_M_goAlong 93 = .ok (.goto (-56), 3) := by decide +kernel
theorem d_M_goAlong_96 : decode b_M_goAlong 96 = .ok (.iinc 4 1, 3) := by decide +kernel
theorem d_M_goAlong_99 : decode b_M_goAlong 99 = .ok (.goto (-71), 3) := by decide +kernel
theorem d_M_goAlong_102 : decode b_M_goAlong 102 = .ok (.iload_n 3, 1) := by decide +kernel
theorem d_M_goAlong_103 : decode b_M_goAlong 103 = .ok (.istore_n 2, 1) := by decide +kernel
theorem d_M_goAlong_104 : decode b_M_goAlong 104 = .ok (.goto (-92), 3) := by decide +kernel
theorem d_M_goAlong_107 : decode b_M_goAlong 107 = .ok (.return_, 1) := by decide +kernel
theorem d_M_closure_0 : decode b_M_closure 0 = .ok (.aload_n 0, 1) := by decide +kernel
theorem d_M_closure_1 : decode b_M_closure 1 = .ok (.iload_n 1, 1) := by decide +kernel
theorem d_M_closure_2 : decode b_M_closure 2 = .ok (.invokevirtual 92, 3) := by decide +kernel
theorem d_M_closure_5 : decode b_M_closure 5 = .ok (.ifCond .ne 5, 3) := by decide +kernel
theorem d_M_closure_8 : decode b_M_closure 8 = .ok (.iconst (-1), 1) := by decide +kernel
theorem d_M_closure_9 : decode b_M_closure 9 = .ok (.ireturn, 1) := by decide +kernel
theorem d_M_closure_10 : decode b_M_closure 10 = .ok (.aload_n 0, 1) := by decide +kernel
theorem d_M_closure_11 : decode b_M_closure 11 = .ok (.iload_n 1, 1) := by decide +kernel
theorem d_M_closure_12 : decode b_M_closure 12 = .ok (.invokevirtual 117, 3) := by decide +kernel
theorem d_M_closure_15 : decode b_M_closure 15 = .ok (.aload_n 0, 1) := by decide +kernel
theorem d_M_closure_16 : decode b_M_closure 16 = .ok (.aload_n 0, 1) := by decide +kernel
theorem d_M_closure_17 : decode b_M_closure 17 = .ok (.getfield 106, 3) := by decide +kernel
theorem d_M_closure_20 : decode b_M_closure 20 = .ok (.putfield 120, 3) := by decide +kernel
theorem d_M_closure_23 : decode b_M_closure 23 = .ok (.iconst 0, 1) := by decide +kernel
theorem d_M_closure_24 : decode b_M_closure 24 = .ok (.istore_n 2, 1) := by decide +kernel
theorem d_M_closure_25 : decode b_M_closure 25 = .ok (.iload_n 2, 1) := by decide +kernel
theorem d_M_closure_26 : decode b_M_closure 26 = .ok (.aload_n 0, 1) := by decide +kernel
theorem d_M_closure_27 : decode b_M_closure 27 = .ok (.getfield 106, 3) := by decide +kernel
theorem d_M_closure_30 : decode b_M_closure 30 = .ok (.if_icmp .ge 21, 3) := by decide +kernel
theorem d_M_closure_33 : decode b_M_closure 33 = .ok (.aload_n 0, 1) := by decide +kernel
theorem d_M_closure_34 : decode b_M_closure 34 = .ok (.getfield 73, 3) := by decide +kernel
theorem d_M_closure_37 : decode b_M_closure 37 = .ok (.iload_n 2, 1) := by decide +kernel
theorem d_M_closure_38 : decode b_M_closure 38 = .ok (.aload_n 0, 1) := by decide +kernel
theorem d_M_closure_39 : decode b_M_closure 39 = .ok (.getfield 67, 3) := by decide +kernel
theorem d_M_closure_42 : decode b_M_closure 42 = .ok (.iload_n 2, 1) := by decide +kernel
theorem d_M_closure_43 : decode b_M_closure 43 = .ok (.iaload, 1) := by decide +kernel
theorem d_M_closure_44 : decode b_M_closure 44 = .ok (.iastore, 1) := by decide +kernel
theorem d_M_closure_45 : decode b_M_closure 45 = .ok (.iinc 2 1, 3) := by decide +kernel
theorem d_M_closure_48 : decode b_M_closure 48 = .ok (.goto (-23), 3) := by decide +kernel
theorem d_M_closure_51 : decode b_M_closure 51 = .ok (.aload_n 0, 1) := by decide +kernel
theorem d_M_closure_52 : decode b_M_closure 52 = .ok (.getfield 120, 3) := by decide +kernel
theorem d_M_closure_55 : decode b_M_closure 55 = .ok (.ireturn, 1) := by decide +kernel
theorem d_M_at_0 : decode b_M_at 0 = .ok (.iload_n 1, 1) := by decide +kernel
theorem d_M_at_1 : decode b_M_at 1 = .ok (.ifCond .lt 20, 3) := by decide +kernel
theorem d_M_at_4 : decode b_M_at 4 = .ok (.iload_n 1, 1) := by decide +kernel
theorem d_M_at_5 : decode b_M_at 5 = .ok (.aload_n 0, 1) := by decide +kernel
theorem d_M_at_6 : decode b_M_at 6 = .ok (.getfield 120, 3) := by decide +kernel
theorem d_M_at_9 : decode b_M_at 9 = .ok (.if_icmp .ge 12, 3) := by decide +kernel
theorem d_M_at_12 : decode b_M_at 12 = .ok (.aload_n 0, 1) := by decide +kernel
theorem d_M_at_13 : decode b_M_at 13 = .ok (.getfield 73, 3) := by decide +kernel
theorem d_M_at_16 : decode b_M_at 16 = .ok (.iload_n 1, 1) := by decide +kernel
theorem d_M_at_17 : decode b_M_at 17 = .ok (.iaload, 1) := by decide +kernel
theorem d_M_at_18 : decode b_M_at 18 = .ok (.goto 4, 3) := by decide +kernel
theorem d_M_at_21 : decode b_M_at 21 = .ok (.iconst (-1), 1) := by decide +kernel
theorem d_M_at_22 : decode b_M_at 22 = .ok (.ireturn, 1) := by decide +kernel
theorem d_M_holds_0 : decode b_M_holds 0 = .ok (.iload_n 3, 1) := by decide +kernel
theorem d_M_holds_1 : decode b_M_holds 1 = .ok (.istore 4, 2) := by decide +kernel
theorem d_M_holds_3 : decode b_M_holds 3 = .ok (.iconst 0, 1) := by decide +kernel
theorem d_M_holds_4 : decode b_M_holds 4 = .ok (.istore 5, 2) := by decide +kernel
theorem d_M_holds_6 : decode b_M_holds 6 = .ok (.iload 5, 2) := by decide +kernel
theorem d_M_holds_8 : decode b_M_holds 8 = .ok (.aload_n 0, 1) := by decide +kernel
theorem d_M_holds_9 : decode b_M_holds 9 = .ok (.getfield 76, 3) := by decide +kernel
theorem d_M_holds_12 : decode b_M_holds 12 = .ok (.if_icmp .ge 134, 3) := by decide +kernel
theorem d_M_holds_15 : decode b_M_holds 15 = .ok (.iload_n 3, 1) := by decide +kernel
theorem d_M_holds_16 : decode b_M_holds 16 = .ok (.ifCond .lt 130, 3) := by decide +kernel
theorem d_M_holds_19 : decode b_M_holds 19 = .ok (.aload_n 0, 1) := by decide +kernel
theorem d_M_holds_20 : decode b_M_holds 20 = .ok (.iload 5, 2) := by decide +kernel
theorem d_M_holds_22 : decode b_M_holds 22 = .ok (.invokevirtual 117, 3) := by decide +kernel
theorem d_M_holds_25 : decode b_M_holds 25 = .ok (.iconst 0, 1) := by decide +kernel
theorem d_M_holds_26 : decode b_M_holds 26 = .ok (.istore 6, 2) := by decide +kernel
theorem d_M_holds_28 : decode b_M_holds 28 = .ok (.iconst 0, 1) := by decide +kernel
theorem d_M_holds_29 : decode b_M_holds 29 = .ok (.istore 7, 2) := by decide +kernel
theorem d_M_holds_31 : decode b_M_holds 31 = .ok (.iload 7, 2) := by decide +kernel
theorem d_M_holds_33 : decode b_M_holds 33 = .ok (.aload_n 0, 1) := by decide +kernel
theorem d_M_holds_34 : decode b_M_holds 34 = .ok (.getfield 106, 3) := by decide +kernel
theorem d_M_holds_37 : decode b_M_holds 37 = .ok (.if_icmp .ge 75, 3) := by decide +kernel
theorem d_M_holds_40 : decode b_M_holds 40 = .ok (.iconst 0, 1) := by decide +kernel
theorem d_M_holds_41 : decode b_M_holds 41 = .ok (.istore 8, 2) := by decide +kernel
theorem d_M_holds_43 : decode b_M_holds 43 = .ok (.iload 8, 2) := by decide +kernel
theorem d_M_holds_45 : decode b_M_holds 45 = .ok (.aload_n 0, 1) := by decide +kernel
theorem d_M_holds_46 : decode b_M_holds 46 = .ok (.getfield 45, 3) := by decide +kernel
theorem d_M_holds_49 : decode b_M_holds 49 = .ok (.aload_n 0, 1) := by decide +kernel
theorem d_M_holds_50 : decode b_M_holds 50 = .ok (.getfield 67, 3) := by decide +kernel
theorem d_M_holds_53 : decode b_M_holds 53 = .ok (.iload 7, 2) := by decide +kernel
theorem d_M_holds_55 : decode b_M_holds 55 = .ok (.iaload, 1) := by decide +kernel
theorem d_M_holds_56 : decode b_M_holds 56 = .ok (.iaload, 1) := by decide +kernel
theorem d_M_holds_57 : decode b_M_holds 57 = .ok (.if_icmp .ge 49, 3) := by decide +kernel
theorem d_M_holds_60 : decode b_M_holds 60 = .ok (.iload 6, 2) := by decide +kernel
theorem d_M_holds_62 : decode b_M_holds 62 = .ok (.ifCond .ne 31, 3) := by decide +kernel
theorem d_M_holds_65 : decode b_M_holds 65 = .ok (.aload_n 0, 1) := by decide +kernel
theorem d_M_holds_66 : decode b_M_holds 66 = .ok (.getfield 7, 3) := by decide +kernel
theorem d_M_holds_69 : decode b_M_holds 69 = .ok (.aload_n 0, 1) := by decide +kernel
theorem d_M_holds_70 : decode b_M_holds 70 = .ok (.getfield 48, 3) := by decide +kernel
theorem d_M_holds_73 : decode b_M_holds 73 = .ok (.bipush 6, 2) := by decide +kernel
theorem d_M_holds_75 : decode b_M_holds 75 = .ok (.aload_n 0, 1) := by decide +kernel
theorem d_M_holds_76 : decode b_M_holds 76 = .ok (.getfield 67, 3) := by decide +kernel
theorem d_M_holds_79 : decode b_M_holds 79 = .ok (.iload 7, 2) := by decide +kernel
theorem d_M_holds_81 : decode b_M_holds 81 = .ok (.iaload, 1) := by decide +kernel
theorem d_M_holds_82 : decode b_M_holds 82 = .ok (.imul, 1) := by decide +kernel
theorem d_M_holds_83 : decode b_M_holds 83 = .ok (.iload 8, 2) := by decide +kernel
theorem d_M_holds_85 : decode b_M_holds 85 = .ok (.iadd, 1) := by decide +kernel
theorem d_M_holds_86 : decode b_M_holds 86 = .ok (.iaload, 1) := by decide +kernel
theorem d_M_holds_87 : decode b_M_holds 87 = .ok (.laload, 1) := by decide +kernel
theorem d_M_holds_88 : decode b_M_holds 88 = .ok (.lload_n 1, 1) := by decide +kernel
theorem d_M_holds_89 : decode b_M_holds 89 = .ok (.lcmp, 1) := by decide +kernel
theorem d_M_holds_90 : decode b_M_holds 90 = .ok (.ifCond .ne 7, 3) := by decide +kernel
theorem d_M_holds_93 : decode b_M_holds 93 = .ok (.iconst 1, 1) := by decide +kernel
theorem d_M_holds_94 : decode b_M_holds 94 = .ok (.goto 4, 3) := by decide +kernel
theorem d_M_holds_97 : decode b_M_holds 97 = .ok (.iconst 0, 1) := by decide +kernel
theorem d_M_holds_98 : decode b_M_holds 98 = .ok (.istore 6, 2) := by decide +kernel
theorem d_M_holds_100 : decode b_M_holds 100 = .ok (.iinc 8 1, 3) := by decide +kernel
theorem d_M_holds_103 : decode b_M_holds 103 = .ok (.goto (-60), 3) := by decide +kernel
theorem d_M_holds_106 : decode b_M_holds 106 = .ok (.iinc 7 1, 3) := by decide +kernel
theorem d_M_holds_109 : decode b_M_holds 109 = .ok (.goto (-78), 3) := by decide +kernel
theorem d_M_holds_112 : decode b_M_holds 112 = .ok (.iload 6, 2) := by decide +kernel
theorem d_M_holds_114 : decode b_M_holds 114 = .ok (.ifCond .eq 11, 3) := by decide +kernel
theorem d_M_holds_117 : decode b_M_holds 117 = .ok (.iload 4, 2) := by decide +kernel
theorem d_M_holds_119 : decode b_M_holds 119 = .ok (.ifCond .ne 6, 3) := by decide +kernel
theorem d_M_holds_122 : decode b_M_holds 122 = .ok (.iload 5, 2) := by decide +kernel
theorem d_M_holds_124 : decode b_M_holds 124 = .ok (.ireturn, 1) := by decide +kernel
theorem d_M_holds_125 : decode b_M_holds 125 = .ok (.iload 4, 2) := by decide +kernel
theorem d_M_holds_127 : decode b_M_holds 127 = .ok (.iload 6, 2) := by decide +kernel
theorem d_M_holds_129 : decode b_M_holds 129 = .ok (.ifCond .eq 7, 3) := by decide +kernel
theorem d_M_holds_132 : decode b_M_holds 132 = .ok (.iconst 1, 1) := by decide +kernel
theorem d_M_holds_133 : decode b_M_holds 133 = .ok (.goto 4, 3) := by decide +kernel
theorem d_M_holds_136 : decode b_M_holds 136 = .ok (.iconst 0, 1) := by decide +kernel
theorem d_M_holds_137 : decode b_M_holds 137 = .ok (.isub, 1) := by decide +kernel
theorem d_M_holds_138 : decode b_M_holds 138 = .ok (.istore 4, 2) := by decide +kernel
theorem d_M_holds_140 : decode b_M_holds 140 = .ok (.iinc 5 1, 3) := by decide +kernel
theorem d_M_holds_143 : decode b_M_holds 143 = .ok (.goto (-137), 3) := by decide +kernel
theorem d_M_holds_146 : decode b_M_holds 146 = .ok (.iconst (-1), 1) := by decide +kernel
theorem d_M_holds_147 : decode b_M_holds 147 = .ok (.ireturn, 1) := by decide +kernel
theorem d_M_missing_0 : decode b_M_missing 0 = .ok (.aload_n 0, 1) := by decide +kernel
theorem d_M_missing_1 : decode b_M_missing 1 = .ok (.iload_n 1, 1) := by decide +kernel
theorem d_M_missing_2 : decode b_M_missing 2 = .ok (.invokevirtual 92, 3) := by decide +kernel
theorem d_M_missing_5 : decode b_M_missing 5 = .ok (.ifCond .eq 7, 3) := by decide +kernel
theorem d_M_missing_8 : decode b_M_missing 8 = .ok (.iload_n 2, 1) := by decide +kernel
theorem d_M_missing_9 : decode b_M_missing 9 = .ok (.ifCond .ge 5, 3) := by decide +kernel
theorem d_M_missing_12 : decode b_M_missing 12 = .ok (.iconst (-1), 1) := by decide +kernel
theorem d_M_missing_13 : decode b_M_missing 13 = .ok (.ireturn, 1) := by decide +kernel
theorem d_M_missing_14 : decode b_M_missing 14 = .ok (.iload_n 2, 1) := by decide +kernel
theorem d_M_missing_15 : decode b_M_missing 15 = .ok (.istore_n 3, 1) := by decide +kernel
theorem d_M_missing_16 : decode b_M_missing 16 = .ok (.iconst 0, 1) := by decide +kernel
theorem d_M_missing_17 : decode b_M_missing 17 = .ok (.istore 4, 2) := by decide +kernel
theorem d_M_missing_19 : decode b_M_missing 19 = .ok (.iload 4, 2) := by decide +kernel
theorem d_M_missing_21 : decode b_M_missing 21 = .ok (.aload_n 0, 1) := by decide +kernel
theorem d_M_missing_22 : decode b_M_missing 22 = .ok (.getfield 51, 3) := by decide +kernel
theorem d_M_missing_25 : decode b_M_missing 25 = .ok (.iload_n 1, 1) := by decide +kernel
theorem d_M_missing_26 : decode b_M_missing 26 = .ok (.iaload, 1) := by decide +kernel
theorem d_M_missing_27 : decode b_M_missing 27 = .ok (.if_icmp .ge 42, 3) := by decide +kernel
theorem d_M_missing_30 : decode b_M_missing 30 = .ok (.aload_n 0, 1) := by decide +kernel
theorem d_M_missing_31 : decode b_M_missing 31 = .ok (.aload_n 0, 1) := by decide +kernel
theorem d_M_missing_32 : decode b_M_missing 32 = .ok (.getfield 27, 3) := by decide +kernel
theorem d_M_missing_35 : decode b_M_missing 35 = .ok (.bipush 6, 2) := by decide +kernel
theorem d_M_missing_37 : decode b_M_missing 37 = .ok (.iload_n 1, 1) := by decide +kernel
theorem d_M_missing_38 : decode b_M_missing 38 = .ok (.imul, 1) := by decide +kernel
theorem d_M_missing_39 : decode b_M_missing 39 = .ok (.iload 4, 2) := by decide +kernel
theorem d_M_missing_41 : decode b_M_missing 41 = .ok (.iadd, 1) := by decide +kernel
theorem d_M_missing_42 : decode b_M_missing 42 = .ok (.laload, 1) := by decide +kernel
theorem d_M_missing_43 : decode b_M_missing 43 = .ok (.invokevirtual 113, 3) := by decide +kernel
theorem d_M_missing_46 : decode b_M_missing 46 = .ok (.iconst (-1), 1) := by decide +kernel
theorem d_M_missing_47 : decode b_M_missing 47 = .ok (.if_icmp .eq 6, 3) := by decide +kernel
theorem d_M_missing_50 : decode b_M_missing 50 = .ok (.goto 13, 3) := by decide +kernel
theorem d_M_missing_53 : decode b_M_missing 53 = .ok (.iload_n 3, 1) := by decide +kernel
theorem d_M_missing_54 : decode b_M_missing 54 = .ok (.ifCond .ne 6, 3) := by decide +kernel
theorem d_M_missing_57 : decode b_M_missing 57 = .ok (.iload 4, 2) := by decide +kernel
theorem d_M_missing_59 : decode b_M_missing 59 = .ok (.ireturn, 1) := by decide +kernel
theorem d_M_missing_60 : decode b_M_missing 60 = .ok (.iinc 3 (-1), 3) := by decide +kernel
theorem d_M_missing_63 : decode b_M_missing 63 = .ok (.iinc 4 1, 3) := by decide +kernel
theorem d_M_missing_66 : decode b_M_missing 66 = .ok (.goto (-47), 3) := by decide +kernel
theorem d_M_missing_69 : decode b_M_missing 69 = .ok (.iconst (-1), 1) := by decide +kernel
theorem d_M_missing_70 : decode b_M_missing 70 = .ok (.ireturn, 1) := by decide +kernel
theorem d_M_others_0 : decode b_M_others 0 = .ok (.iconst 0, 1) := by decide +kernel
theorem d_M_others_1 : decode b_M_others 1 = .ok (.istore_n 3, 1) := by decide +kernel
theorem d_M_others_2 : decode b_M_others 2 = .ok (.iconst 0, 1) := by decide +kernel
theorem d_M_others_3 : decode b_M_others 3 = .ok (.istore 4, 2) := by decide +kernel
theorem d_M_others_5 : decode b_M_others 5 = .ok (.iload 4, 2) := by decide +kernel
theorem d_M_others_7 : decode b_M_others 7 = .ok (.bipush 16, 2) := by decide +kernel
theorem d_M_others_9 : decode b_M_others 9 = .ok (.if_icmp .ge 33, 3) := by decide +kernel
theorem d_M_others_12 : decode b_M_others 12 = .ok (.iload_n 3, 1) := by decide +kernel
theorem d_M_others_13 : decode b_M_others 13 = .ok (.iload 4, 2) := by decide +kernel
theorem d_M_others_15 : decode b_M_others 15 = .ok (.iload_n 2, 1) := by decide +kernel
theorem d_M_others_16 : decode b_M_others 16 = .ok (.if_icmp .ne 7, 3) := by decide +kernel
theorem d_M_others_19 : decode b_M_others 19 = .ok (.iconst 0, 1) := by decide +kernel
theorem d_M_others_20 : decode b_M_others 20 = .ok (.goto 14, 3) := by decide +kernel
theorem d_M_others_23 : decode b_M_others 23 = .ok (.aload_n 0, 1) := by decide +kernel
theorem d_M_others_24 : decode b_M_others 24 = .ok (.getfield 17, 3) := by decide +kernel
theorem d_M_others_27 : decode b_M_others 27 = .ok (.iload_n 1, 1) := by decide +kernel
theorem d_M_others_28 : decode b_M_others 28 = .ok (.iaload, 1) := by decide +kernel
theorem d_M_others_29 : decode b_M_others 29 = .ok (.iload 4, 2) := by decide +kernel
theorem d_M_others_31 : decode b_M_others 31 = .ok (.ishr, 1) := by decide +kernel
theorem d_M_others_32 : decode b_M_others 32 = .ok (.iconst 1, 1) := by decide +kernel
theorem d_M_others_33 : decode b_M_others 33 = .ok (.iand, 1) := by decide +kernel
theorem d_M_others_34 : decode b_M_others 34 = .ok (.iadd, 1) := by decide +kernel
theorem d_M_others_35 : decode b_M_others 35 = .ok (.istore_n 3, 1) := by decide +kernel
theorem d_M_others_36 : decode b_M_others 36 = .ok (.iinc 4 1, 3) := by decide +kernel
theorem d_M_others_39 : decode b_M_others 39 = .ok (.goto (-34), 3) := by decide +kernel
theorem d_M_others_42 : decode b_M_others 42 = .ok (.iload_n 3, 1) := by decide +kernel
theorem d_M_others_43 : decode b_M_others 43 = .ok (.ireturn, 1) := by decide +kernel
theorem d_M_sourceBreaks_0 : decode b_M_sourceBreaks 0 = .ok (.iconst 0, 1) := by decide +kernel
theorem d_M_sourceBreaks_1 : decode b_M_sourceBreaks 1 = .ok (.istore 4, 2) := by decide +kernel
theorem d_M_sourceBreaks_3 : decode b_M_sourceBreaks 3 = .ok (.iload 4, 2) := by decide +kernel
theorem d_M_sourceBreaks_5 : decode b_M_sourceBreaks 5 = .ok (.aload_n 0, 1) := by decide +kernel
theorem d_M_sourceBreaks_6 : decode b_M_sourceBreaks 6 = .ok (.getfield 45, 3) := by decide +kernel
theorem d_M_sourceBreaks_9 : decode b_M_sourceBreaks 9 = .ok (.iload_n 1, 1) := by decide +kernel
theorem d_M_sourceBreaks_10 : decode b_M_sourceBreaks 10 = .ok (.iaload, 1) := by decide +kernel
theorem d_M_sourceBreaks_11 : decode b_M_sourceBreaks 11 = .ok (.if_icmp .ge 95, 3) := by decide +kernel
theorem d_M_sourceBreaks_14 : decode b_M_sourceBreaks 14 = .ok (.aload_n 0, 1) := by decide +kernel
theorem d_M_sourceBreaks_15 : decode b_M_sourceBreaks 15 = .ok (.getfield 48, 3) := by decide +kernel
theorem d_M_sourceBreaks_18 : decode b_M_sourceBreaks 18 = .ok (.bipush 6, 2) := by decide +kernel
theorem d_M_sourceBreaks_20 : decode b_M_sourceBreaks 20 = .ok (.iload_n 1, 1) := by decide +kernel
theorem d_M_sourceBreaks_21 : decode b_M_sourceBreaks 21 = .ok (.imul, 1) := by decide +kernel
theorem d_M_sourceBreaks_22 : decode b_M_sourceBreaks 22 = .ok (.iload 4, 2) := by decide +kernel
theorem d_M_sourceBreaks_24 : decode b_M_sourceBreaks 24 = .ok (.iadd, 1) := by decide +kernel
theorem d_M_sourceBreaks_25 : decode b_M_sourceBreaks 25 = .ok (.iaload, 1) := by decide +kernel
theorem d_M_sourceBreaks_26 : decode b_M_sourceBreaks 26 = .ok (.istore 5, 2) := by decide +kernel
theorem d_M_sourceBreaks_28 : decode b_M_sourceBreaks 28 = .ok (.iload_n 2, 1) := by decide +kernel
theorem d_M_sourceBreaks_29 : decode b_M_sourceBreaks 29 = .ok (.iconst 2, 1) := by decide +kernel
theorem d_M_sourceBreaks_30 : decode b_M_sourceBreaks 30 = .ok (.if_icmp .ne 25, 3) := by decide +kernel
theorem d_M_sourceBreaks_33 : decode b_M_sourceBreaks 33 = .ok (.iload_n 3, 1) := by decide +kernel
theorem d_M_sourceBreaks_34 : decode b_M_sourceBreaks 34 = .ok (.aload_n 0, 1) := by decide +kernel
theorem d_M_sourceBreaks_35 : decode b_M_sourceBreaks 35 = .ok (.getfield 13, 3) := by decide +kernel
theorem d_M_sourceBreaks_38 : decode b_M_sourceBreaks 38 = .ok (.iload 5, 2) := by decide +kernel
theorem d_M_sourceBreaks_40 : decode b_M_sourceBreaks 40 = .ok (.iaload, 1) := by decide +kernel
theorem d_M_sourceBreaks_41 : decode b_M_sourceBreaks 41 = .ok (.ishr, 1) := by decide +kernel
theorem d_M_sourceBreaks_42 : decode b_M_sourceBreaks 42 = .ok (.iconst 1, 1) := by decide +kernel
theorem d_M_sourceBreaks_43 : decode b_M_sourceBreaks 43 = .ok (.iand, 1) := by decide +kernel
theorem d_M_sourceBreaks_44 : decode b_M_sourceBreaks 44 = .ok (.ifCond .ne 7, 3) := by decide +kernel
theorem d_M_sourceBreaks_47 : decode b_M_sourceBreaks 47 = .ok (.iconst 1, 1) := by decide +kernel
theorem d_M_sourceBreaks_48 : decode b_M_sourceBreaks 48 = .ok (.goto 43, 3) := by decide +kernel
theorem d_M_sourceBreaks_51 : decode b_M_sourceBreaks 51 = .ok (.iconst 0, 1) := by decide +kernel
theorem d_M_sourceBreaks_52 : decode b_M_sourceBreaks 52 = .ok (.goto 39, 3) := by decide +kernel
theorem d_M_sourceBreaks_55 : decode b_M_sourceBreaks 55 = .ok (.iload_n 2, 1) := by decide +kernel
theorem d_M_sourceBreaks_56 : decode b_M_sourceBreaks 56 = .ok (.iconst 3, 1) := by decide +kernel
theorem d_M_sourceBreaks_57 : decode b_M_sourceBreaks 57 = .ok (.if_icmp .ne 27, 3) := by decide +kernel
theorem d_M_sourceBreaks_60 : decode b_M_sourceBreaks 60 = .ok (.aload_n 0, 1) := by decide +kernel
theorem d_M_sourceBreaks_61 : decode b_M_sourceBreaks 61 = .ok (.iload 5, 2) := by decide +kernel
theorem d_M_sourceBreaks_63 : decode b_M_sourceBreaks 63 = .ok (.aload_n 0, 1) := by decide +kernel
theorem d_M_sourceBreaks_64 : decode b_M_sourceBreaks 64 = .ok (.getfield 39, 3) := by decide +kernel
theorem d_M_sourceBreaks_67 : decode b_M_sourceBreaks 67 = .ok (.iload_n 1, 1) := by decide +kernel
theorem d_M_sourceBreaks_68 : decode b_M_sourceBreaks 68 = .ok (.iaload, 1) := by decide +kernel
theorem d_M_sourceBreaks_69 : decode b_M_sourceBreaks 69 = .ok (.invokevirtual 123, 3) := by decide +kernel
theorem d_M_sourceBreaks_72 : decode b_M_sourceBreaks 72 = .ok (.iload_n 3, 1) := by decide +kernel
theorem d_M_sourceBreaks_73 : decode b_M_sourceBreaks 73 = .ok (.if_icmp .ge 7, 3) := by decide +kernel
theorem d_M_sourceBreaks_76 : decode b_M_sourceBreaks 76 = .ok (.iconst 1, 1) := by decide +kernel
theorem d_M_sourceBreaks_77 : decode b_M_sourceBreaks 77 = .ok (.goto 14, 3) := by decide +kernel
theorem d_M_sourceBreaks_80 : decode b_M_sourceBreaks 80 = .ok (.iconst 0, 1) := by decide +kernel
theorem d_M_sourceBreaks_81 : decode b_M_sourceBreaks 81 = .ok (.goto 10, 3) := by decide +kernel
theorem d_M_sourceBreaks_84 : decode b_M_sourceBreaks 84 = .ok (.aload_n 0, 1) := by decide +kernel
theorem d_M_sourceBreaks_85 : decode b_M_sourceBreaks 85 = .ok (.getfield 20, 3) := by decide +kernel
theorem d_M_sourceBreaks_88 : decode b_M_sourceBreaks 88 = .ok (.iload 5, 2) := by decide +kernel
theorem d_M_sourceBreaks_90 : decode b_M_sourceBreaks 90 = .ok (.baload, 1) := by decide +kernel
theorem d_M_sourceBreaks_91 : decode b_M_sourceBreaks 91 = .ok (.istore 6, 2) := by decide +kernel
theorem d_M_sourceBreaks_93 : decode b_M_sourceBreaks 93 = .ok (.iload 6, 2) := by decide +kernel
theorem d_M_sourceBreaks_95 : decode b_M_sourceBreaks 95 = .ok (.ifCond .eq 5, 3) := by decide +kernel
theorem d_M_sourceBreaks_98 : decode b_M_sourceBreaks 98 = .ok (.iconst 1, 1) := by decide +kernel
theorem d_M_sourceBreaks_99 : decode b_M_sourceBreaks 99 = .ok (.ireturn, 1) := by decide +kernel
theorem d_M_sourceBreaks_100 : decode b_M_sourceBreaks 100 = .ok (.iinc 4 1, 3) := by decide +kernel
theorem d_M_sourceBreaks_103 : decode b_M_sourceBreaks 103 = .ok (.goto (-100), 3) := by decide +kernel
theorem d_M_sourceBreaks_106 : decode b_M_sourceBreaks 106 = .ok (.iconst 0, 1) := by decide +kernel
theorem d_M_sourceBreaks_107 : decode b_M_sourceBreaks 107 = .ok (.ireturn, 1) := by decide +kernel
theorem d_M_isLate_0 : decode b_M_isLate 0 = .ok (.iconst 0, 1) := by decide +kernel
theorem d_M_isLate_1 : decode b_M_isLate 1 = .ok (.istore_n 3, 1) := by decide +kernel
theorem d_M_isLate_2 : decode b_M_isLate 2 = .ok (.iload_n 3, 1) := by decide +kernel
theorem d_M_isLate_3 : decode b_M_isLate 3 = .ok (.aload_n 0, 1) := by decide +kernel
theorem d_M_isLate_4 : decode b_M_isLate 4 = .ok (.getfield 51, 3) := by decide +kernel
theorem d_M_isLate_7 : decode b_M_isLate 7 = .ok (.iload_n 1, 1) := by decide +kernel
theorem d_M_isLate_8 : decode b_M_isLate 8 = .ok (.iaload, 1) := by decide +kernel
theorem d_M_isLate_9 : decode b_M_isLate 9 = .ok (.if_icmp .ge 52, 3) := by decide +kernel
theorem d_M_isLate_12 : decode b_M_isLate 12 = .ok (.aload_n 0, 1) := by decide +kernel
theorem d_M_isLate_13 : decode b_M_isLate 13 = .ok (.aload_n 0, 1) := by decide +kernel
theorem d_M_isLate_14 : decode b_M_isLate 14 = .ok (.getfield 27, 3) := by decide +kernel
theorem d_M_isLate_17 : decode b_M_isLate 17 = .ok (.bipush 6, 2) := by decide +kernel
theorem d_M_isLate_19 : decode b_M_isLate 19 = .ok (.iload_n 1, 1) := by decide +kernel
theorem d_M_isLate_20 : decode b_M_isLate 20 = .ok (.imul, 1) := by decide +kernel
theorem d_M_isLate_21 : decode b_M_isLate 21 = .ok (.iload_n 3, 1) := by decide +kernel
theorem d_M_isLate_22 : decode b_M_isLate 22 = .ok (.iadd, 1) := by decide +kernel
theorem d_M_isLate_23 : decode b_M_isLate 23 = .ok (.laload, 1) := by decide +kernel
theorem d_M_isLate_24 : decode b_M_isLate 24 = .ok (.invokevirtual 113, 3) := by decide +kernel
theorem d_M_isLate_27 : decode b_M_isLate 27 = .ok (.istore 4, 2) := by decide +kernel
theorem d_M_isLate_29 : decode b_M_isLate 29 = .ok (.iload 4, 2) := by decide +kernel
theorem d_M_isLate_31 : decode b_M_isLate 31 = .ok (.iconst (-1), 1) := by decide +kernel
theorem d_M_isLate_32 : decode b_M_isLate 32 = .ok (.if_icmp .eq 23, 3) := by decide +kernel
theorem d_M_isLate_35 : decode b_M_isLate 35 = .ok (.aload_n 0, 1) := by decide +kernel
theorem d_M_isLate_36 : decode b_M_isLate 36 = .ok (.getfield 42, 3) := by decide +kernel
theorem d_M_isLate_39 : decode b_M_isLate 39 = .ok (.iload 4, 2) := by decide +kernel
theorem d_M_isLate_41 : decode b_M_isLate 41 = .ok (.iaload, 1) := by decide +kernel
theorem d_M_isLate_42 : decode b_M_isLate 42 = .ok (.aload_n 0, 1) := by decide +kernel
theorem d_M_isLate_43 : decode b_M_isLate 43 = .ok (.getfield 42, 3) := by decide +kernel
theorem d_M_isLate_46 : decode b_M_isLate 46 = .ok (.iload_n 1, 1) := by decide +kernel
theorem d_M_isLate_47 : decode b_M_isLate 47 = .ok (.iaload, 1) := by decide +kernel
theorem d_M_isLate_48 : decode b_M_isLate 48 = .ok (.isub, 1) := by decide +kernel
theorem d_M_isLate_49 : decode b_M_isLate 49 = .ok (.iload_n 2, 1) := by decide +kernel
theorem d_M_isLate_50 : decode b_M_isLate 50 = .ok (.if_icmp .le 5, 3) := by decide +kernel
theorem d_M_isLate_53 : decode b_M_isLate 53 = .ok (.iconst 1, 1) := by decide +kernel
theorem d_M_isLate_54 : decode b_M_isLate 54 = .ok (.ireturn, 1) := by decide +kernel
theorem d_M_isLate_55 : decode b_M_isLate 55 = .ok (.iinc 3 1, 3) := by decide +kernel
theorem d_M_isLate_58 : decode b_M_isLate 58 = .ok (.goto (-56), 3) := by decide +kernel
theorem d_M_isLate_61 : decode b_M_isLate 61 = .ok (.iconst 0, 1) := by decide +kernel
theorem d_M_isLate_62 : decode b_M_isLate 62 = .ok (.ireturn, 1) := by decide +kernel
theorem d_M_agree_0 : decode b_M_agree 0 = .ok (.aload_n 0, 1) := by decide +kernel
theorem d_M_agree_1 : decode b_M_agree 1 = .ok (.getfield 33, 3) := by decide +kernel
theorem d_M_agree_4 : decode b_M_agree 4 = .ok (.iload_n 1, 1) := by decide +kernel
theorem d_M_agree_5 : decode b_M_agree 5 = .ok (.iaload, 1) := by decide +kernel
theorem d_M_agree_6 : decode b_M_agree 6 = .ok (.aload_n 0, 1) := by decide +kernel
theorem d_M_agree_7 : decode b_M_agree 7 = .ok (.getfield 33, 3) := by decide +kernel
theorem d_M_agree_10 : decode b_M_agree 10 = .ok (.iload_n 2, 1) := by decide +kernel
theorem d_M_agree_11 : decode b_M_agree 11 = .ok (.iaload, 1) := by decide +kernel
theorem d_M_agree_12 : decode b_M_agree 12 = .ok (.if_icmp .ne 52, 3) := by decide +kernel
theorem d_M_agree_15 : decode b_M_agree 15 = .ok (.aload_n 0, 1) := by decide +kernel
theorem d_M_agree_16 : decode b_M_agree 16 = .ok (.getfield 36, 3) := by decide +kernel
theorem d_M_agree_19 : decode b_M_agree 19 = .ok (.iload_n 1, 1) := by decide +kernel
theorem d_M_agree_20 : decode b_M_agree 20 = .ok (.iaload, 1) := by decide +kernel
theorem d_M_agree_21 : decode b_M_agree 21 = .ok (.aload_n 0, 1) := by decide +kernel
theorem d_M_agree_22 : decode b_M_agree 22 = .ok (.getfield 36, 3) := by decide +kernel
theorem d_M_agree_25 : decode b_M_agree 25 = .ok (.iload_n 2, 1) := by decide +kernel
theorem d_M_agree_26 : decode b_M_agree 26 = .ok (.iaload, 1) := by decide +kernel
theorem d_M_agree_27 : decode b_M_agree 27 = .ok (.if_icmp .ne 37, 3) := by decide +kernel
theorem d_M_agree_30 : decode b_M_agree 30 = .ok (.aload_n 0, 1) := by decide +kernel
theorem d_M_agree_31 : decode b_M_agree 31 = .ok (.getfield 45, 3) := by decide +kernel
theorem d_M_agree_34 : decode b_M_agree 34 = .ok (.iload_n 1, 1) := by decide +kernel
theorem d_M_agree_35 : decode b_M_agree 35 = .ok (.iaload, 1) := by decide +kernel
theorem d_M_agree_36 : decode b_M_agree 36 = .ok (.aload_n 0, 1) := by decide +kernel
theorem d_M_agree_37 : decode b_M_agree 37 = .ok (.getfield 45, 3) := by decide +kernel
theorem d_M_agree_40 : decode b_M_agree 40 = .ok (.iload_n 2, 1) := by decide +kernel
theorem d_M_agree_41 : decode b_M_agree 41 = .ok (.iaload, 1) := by decide +kernel
theorem d_M_agree_42 : decode b_M_agree 42 = .ok (.if_icmp .ne 22, 3) := by decide +kernel
theorem d_M_agree_45 : decode b_M_agree 45 = .ok (.aload_n 0, 1) := by decide +kernel
theorem d_M_agree_46 : decode b_M_agree 46 = .ok (.getfield 51, 3) := by decide +kernel
theorem d_M_agree_49 : decode b_M_agree 49 = .ok (.iload_n 1, 1) := by decide +kernel
theorem d_M_agree_50 : decode b_M_agree 50 = .ok (.iaload, 1) := by decide +kernel
theorem d_M_agree_51 : decode b_M_agree 51 = .ok (.aload_n 0, 1) := by decide +kernel
theorem d_M_agree_52 : decode b_M_agree 52 = .ok (.getfield 51, 3) := by decide +kernel
theorem d_M_agree_55 : decode b_M_agree 55 = .ok (.iload_n 2, 1) := by decide +kernel
theorem d_M_agree_56 : decode b_M_agree 56 = .ok (.iaload, 1) := by decide +kernel
theorem d_M_agree_57 : decode b_M_agree 57 = .ok (.if_icmp .ne 7, 3) := by decide +kernel
theorem d_M_agree_60 : decode b_M_agree 60 = .ok (.iconst 1, 1) := by decide +kernel
theorem d_M_agree_61 : decode b_M_agree 61 = .ok (.goto 4, 3) := by decide +kernel
theorem d_M_agree_64 : decode b_M_agree 64 = .ok (.iconst 0, 1) := by decide +kernel
theorem d_M_agree_65 : decode b_M_agree 65 = .ok (.istore_n 3, 1) := by decide +kernel
theorem d_M_agree_66 : decode b_M_agree 66 = .ok (.iconst 0, 1) := by decide +kernel
theorem d_M_agree_67 : decode b_M_agree 67 = .ok (.istore 4, 2) := by decide +kernel
theorem d_M_agree_69 : decode b_M_agree 69 = .ok (.iload 4, 2) := by decide +kernel
theorem d_M_agree_71 : decode b_M_agree 71 = .ok (.aload_n 0, 1) := by decide +kernel
theorem d_M_agree_72 : decode b_M_agree 72 = .ok (.getfield 45, 3) := by decide +kernel
theorem d_M_agree_75 : decode b_M_agree 75 = .ok (.iload_n 1, 1) := by decide +kernel
theorem d_M_agree_76 : decode b_M_agree 76 = .ok (.iaload, 1) := by decide +kernel
theorem d_M_agree_77 : decode b_M_agree 77 = .ok (.if_icmp .ge 46, 3) := by decide +kernel
theorem d_M_agree_80 : decode b_M_agree 80 = .ok (.iload_n 3, 1) := by decide +kernel
theorem d_M_agree_81 : decode b_M_agree 81 = .ok (.ifCond .eq 42, 3) := by decide +kernel
theorem d_M_agree_84 : decode b_M_agree 84 = .ok (.aload_n 0, 1) := by decide +kernel
theorem d_M_agree_85 : decode b_M_agree 85 = .ok (.getfield 48, 3) := by decide +kernel
theorem d_M_agree_88 : decode b_M_agree 88 = .ok (.bipush 6, 2) := by decide +kernel
theorem d_M_agree_90 : decode b_M_agree 90 = .ok (.iload_n 1, 1) := by decide +kernel
theorem d_M_agree_91 : decode b_M_agree 91 = .ok (.imul, 1) := by decide +kernel
theorem d_M_agree_92 : decode b_M_agree 92 = .ok (.iload 4, 2) := by decide +kernel
theorem d_M_agree_94 : decode b_M_agree 94 = .ok (.iadd, 1) := by decide +kernel
theorem d_M_agree_95 : decode b_M_agree 95 = .ok (.iaload, 1) := by decide +kernel
theorem d_M_agree_96 : decode b_M_agree 96 = .ok (.aload_n 0, 1) := by decide +kernel
theorem d_M_agree_97 : decode b_M_agree 97 = .ok (.getfield 48, 3) := by decide +kernel
theorem d_M_agree_100 : decode b_M_agree 100 = .ok (.bipush 6, 2) := by decide +kernel
theorem d_M_agree_102 : decode b_M_agree 102 = .ok (.iload_n 2, 1) := by decide +kernel
theorem d_M_agree_103 : decode b_M_agree 103 = .ok (.imul, 1) := by decide +kernel
theorem d_M_agree_104 : decode b_M_agree 104 = .ok (.iload 4, 2) := by decide +kernel
theorem d_M_agree_106 : decode b_M_agree 106 = .ok (.iadd, 1) := by decide +kernel
theorem d_M_agree_107 : decode b_M_agree 107 = .ok (.iaload, 1) := by decide +kernel
theorem d_M_agree_108 : decode b_M_agree 108 = .ok (.if_icmp .ne 7, 3) := by decide +kernel
theorem d_M_agree_111 : decode b_M_agree 111 = .ok (.iconst 1, 1) := by decide +kernel
theorem d_M_agree_112 : decode b_M_agree 112 = .ok (.goto 4, 3) := by decide +kernel
theorem d_M_agree_115 : decode b_M_agree 115 = .ok (.iconst 0, 1) := by decide +kernel
theorem d_M_agree_116 : decode b_M_agree 116 = .ok (.istore_n 3, 1) := by decide +kernel
theorem d_M_agree_117 : decode b_M_agree 117 = .ok (.iinc 4 1, 3) := by decide +kernel
theorem d_M_agree_120 : decode b_M_agree 120 = .ok (.goto (-51), 3) := by decide +kernel
theorem d_M_agree_123 : decode b_M_agree 123 = .ok (.iconst 0, 1) := by decide +kernel
theorem d_M_agree_124 : decode b_M_agree 124 = .ok (.istore 4, 2) := by decide +kernel
theorem d_M_agree_126 : decode b_M_agree 126 = .ok (.iload 4, 2) := by decide +kernel
theorem d_M_agree_128 : decode b_M_agree 128 = .ok (.aload_n 0, 1) := by decide +kernel
theorem d_M_agree_129 : decode b_M_agree 129 = .ok (.getfield 51, 3) := by decide +kernel
theorem d_M_agree_132 : decode b_M_agree 132 = .ok (.iload_n 1, 1) := by decide +kernel
theorem d_M_agree_133 : decode b_M_agree 133 = .ok (.iaload, 1) := by decide +kernel
theorem d_M_agree_134 : decode b_M_agree 134 = .ok (.if_icmp .ge 47, 3) := by decide +kernel
theorem d_M_agree_137 : decode b_M_agree 137 = .ok (.iload_n 3, 1) := by decide +kernel
theorem d_M_agree_138 : decode b_M_agree 138 = .ok (.ifCond .eq 43, 3) := by decide +kernel
theorem d_M_agree_141 : decode b_M_agree 141 = .ok (.aload_n 0, 1) := by decide +kernel
theorem d_M_agree_142 : decode b_M_agree 142 = .ok (.getfield 27, 3) := by decide +kernel
theorem d_M_agree_145 : decode b_M_agree 145 = .ok (.bipush 6, 2) := by decide +kernel
theorem d_M_agree_147 : decode b_M_agree 147 = .ok (.iload_n 1, 1) := by decide +kernel
theorem d_M_agree_148 : decode b_M_agree 148 = .ok (.imul, 1) := by decide +kernel
theorem d_M_agree_149 : decode b_M_agree 149 = .ok (.iload 4, 2) := by decide +kernel
theorem d_M_agree_151 : decode b_M_agree 151 = .ok (.iadd, 1) := by decide +kernel
theorem d_M_agree_152 : decode b_M_agree 152 = .ok (.laload, 1) := by decide +kernel
theorem d_M_agree_153 : decode b_M_agree 153 = .ok (.aload_n 0, 1) := by decide +kernel
theorem d_M_agree_154 : decode b_M_agree 154 = .ok (.getfield 27, 3) := by decide +kernel
theorem d_M_agree_157 : decode b_M_agree 157 = .ok (.bipush 6, 2) := by decide +kernel
theorem d_M_agree_159 : decode b_M_agree 159 = .ok (.iload_n 2, 1) := by decide +kernel
theorem d_M_agree_160 : decode b_M_agree 160 = .ok (.imul, 1) := by decide +kernel
theorem d_M_agree_161 : decode b_M_agree 161 = .ok (.iload 4, 2) := by decide +kernel
theorem d_M_agree_163 : decode b_M_agree 163 = .ok (.iadd, 1) := by decide +kernel
theorem d_M_agree_164 : decode b_M_agree 164 = .ok (.laload, 1) := by decide +kernel
theorem d_M_agree_165 : decode b_M_agree 165 = .ok (.lcmp, 1) := by decide +kernel
theorem d_M_agree_166 : decode b_M_agree 166 = .ok (.ifCond .ne 7, 3) := by decide +kernel
theorem d_M_agree_169 : decode b_M_agree 169 = .ok (.iconst 1, 1) := by decide +kernel
theorem d_M_agree_170 : decode b_M_agree 170 = .ok (.goto 4, 3) := by decide +kernel
theorem d_M_agree_173 : decode b_M_agree 173 = .ok (.iconst 0, 1) := by decide +kernel
theorem d_M_agree_174 : decode b_M_agree 174 = .ok (.istore_n 3, 1) := by decide +kernel
theorem d_M_agree_175 : decode b_M_agree 175 = .ok (.iinc 4 1, 3) := by decide +kernel
theorem d_M_agree_178 : decode b_M_agree 178 = .ok (.goto (-52), 3) := by decide +kernel
theorem d_M_agree_181 : decode b_M_agree 181 = .ok (.iload_n 3, 1) := by decide +kernel
theorem d_M_agree_182 : decode b_M_agree 182 = .ok (.ireturn, 1) := by decide +kernel
theorem d_M_isClash_0 : decode b_M_isClash 0 = .ok (.aload_n 0, 1) := by decide +kernel
theorem d_M_isClash_1 : decode b_M_isClash 1 = .ok (.getfield 24, 3) := by decide +kernel
theorem d_M_isClash_4 : decode b_M_isClash 4 = .ok (.iload_n 1, 1) := by decide +kernel
theorem d_M_isClash_5 : decode b_M_isClash 5 = .ok (.laload, 1) := by decide +kernel
theorem d_M_isClash_6 : decode b_M_isClash 6 = .ok (.aload_n 0, 1) := by decide +kernel
theorem d_M_isClash_7 : decode b_M_isClash 7 = .ok (.getfield 24, 3) := by decide +kernel
theorem d_M_isClash_10 : decode b_M_isClash 10 = .ok (.iload_n 2, 1) := by decide +kernel
theorem d_M_isClash_11 : decode b_M_isClash 11 = .ok (.laload, 1) := by decide +kernel
theorem d_M_isClash_12 : decode b_M_isClash 12 = .ok (.lcmp, 1) := by decide +kernel
theorem d_M_isClash_13 : decode b_M_isClash 13 = .ok (.ifCond .ne 16, 3) := by decide +kernel
theorem d_M_isClash_16 : decode b_M_isClash 16 = .ok (.aload_n 0, 1) := by decide +kernel
theorem d_M_isClash_17 : decode b_M_isClash 17 = .ok (.iload_n 1, 1) := by decide +kernel
theorem d_M_isClash_18 : decode b_M_isClash 18 = .ok (.iload_n 2, 1) := by decide +kernel
theorem d_M_isClash_19 : decode b_M_isClash 19 = .ok (.invokevirtual 127, 3) := by decide +kernel
theorem d_M_isClash_22 : decode b_M_isClash 22 = .ok (.ifCond .ne 7, 3) := by decide +kernel
theorem d_M_isClash_25 : decode b_M_isClash 25 = .ok (.iconst 1, 1) := by decide +kernel
theorem d_M_isClash_26 : decode b_M_isClash 26 = .ok (.goto 4, 3) := by decide +kernel
theorem d_M_isClash_29 : decode b_M_isClash 29 = .ok (.iconst 0, 1) := by decide +kernel
theorem d_M_isClash_30 : decode b_M_isClash 30 = .ok (.ireturn, 1) := by decide +kernel
theorem d_M_isBroken_0 : decode b_M_isBroken 0 = .ok (.aload_n 0, 1) := by decide +kernel
theorem d_M_isBroken_1 : decode b_M_isBroken 1 = .ok (.getfield 60, 3) := by decide +kernel
theorem d_M_isBroken_4 : decode b_M_isBroken 4 = .ok (.iload_n 2, 1) := by decide +kernel
theorem d_M_isBroken_5 : decode b_M_isBroken 5 = .ok (.iaload, 1) := by decide +kernel
theorem d_M_isBroken_6 : decode b_M_isBroken 6 = .ok (.istore_n 3, 1) := by decide +kernel
theorem d_M_isBroken_7 : decode b_M_isBroken 7 = .ok (.aload_n 0, 1) := by decide +kernel
theorem d_M_isBroken_8 : decode b_M_isBroken 8 = .ok (.getfield 57, 3) := by decide +kernel
theorem d_M_isBroken_11 : decode b_M_isBroken 11 = .ok (.iload_n 2, 1) := by decide +kernel
theorem d_M_isBroken_12 : decode b_M_isBroken 12 = .ok (.iaload, 1) := by decide +kernel
theorem d_M_isBroken_13 : decode b_M_isBroken 13 = .ok (.tableswitch 205 0 8 #[51, 80, 99, 99, 99, 112, 128, 135, 181], 51) := by decide +kernel
theorem d_M_isBroken_64 : decode b_M_isBroken 64 = .ok (.aload_n 0, 1) := by decide +kernel
theorem d_M_isBroken_65 : decode b_M_isBroken 65 = .ok (.getfield 33, 3) := by decide +kernel
theorem d_M_isBroken_68 : decode b_M_isBroken 68 = .ok (.iload_n 1, 1) := by decide +kernel
theorem d_M_isBroken_69 : decode b_M_isBroken 69 = .ok (.iaload, 1) := by decide +kernel
theorem d_M_isBroken_70 : decode b_M_isBroken 70 = .ok (.iconst (-1), 1) := by decide +kernel
theorem d_M_isBroken_71 : decode b_M_isBroken 71 = .ok (.if_icmp .eq 16, 3) := by decide +kernel
theorem d_M_isBroken_74 : decode b_M_isBroken 74 = .ok (.iload_n 3, 1) := by decide +kernel
theorem d_M_isBroken_75 : decode b_M_isBroken 75 = .ok (.aload_n 0, 1) := by decide +kernel
theorem d_M_isBroken_76 : decode b_M_isBroken 76 = .ok (.getfield 33, 3) := by decide +kernel
theorem d_M_isBroken_79 : decode b_M_isBroken 79 = .ok (.iload_n 1, 1) := by decide +kernel
theorem d_M_isBroken_80 : decode b_M_isBroken 80 = .ok (.iaload, 1) := by decide +kernel
theorem d_M_isBroken_81 : decode b_M_isBroken 81 = .ok (.ishr, 1) := by decide +kernel
theorem d_M_isBroken_82 : decode b_M_isBroken 82 = .ok (.iconst 1, 1) := by decide +kernel
theorem d_M_isBroken_83 : decode b_M_isBroken 83 = .ok (.iand, 1) := by decide +kernel
theorem d_M_isBroken_84 : decode b_M_isBroken 84 = .ok (.ifCond .ne 7, 3) := by decide +kernel
theorem d_M_isBroken_87 : decode b_M_isBroken 87 = .ok (.iconst 1, 1) := by decide +kernel
theorem d_M_isBroken_88 : decode b_M_isBroken 88 = .ok (.goto 4, 3) := by decide +kernel
theorem d_M_isBroken_91 : decode b_M_isBroken 91 = .ok (.iconst 0, 1) := by decide +kernel
theorem d_M_isBroken_92 : decode b_M_isBroken 92 = .ok (.ireturn, 1) := by decide +kernel
theorem d_M_isBroken_93 : decode b_M_isBroken 93 = .ok (.iload_n 3, 1) := by decide +kernel
theorem d_M_isBroken_94 : decode b_M_isBroken 94 = .ok (.aload_n 0, 1) := by decide +kernel
theorem d_M_isBroken_95 : decode b_M_isBroken 95 = .ok (.getfield 36, 3) := by decide +kernel
theorem d_M_isBroken_98 : decode b_M_isBroken 98 = .ok (.iload_n 1, 1) := by decide +kernel
theorem d_M_isBroken_99 : decode b_M_isBroken 99 = .ok (.iaload, 1) := by decide +kernel
theorem d_M_isBroken_100 : decode b_M_isBroken 100 = .ok (.ishr, 1) := by decide +kernel
theorem d_M_isBroken_101 : decode b_M_isBroken 101 = .ok (.iconst 1, 1) := by decide +kernel
theorem d_M_isBroken_102 : decode b_M_isBroken 102 = .ok (.iand, 1) := by decide +kernel
theorem d_M_isBroken_103 : decode b_M_isBroken 103 = .ok (.ifCond .ne 7, 3) := by decide +kernel
theorem d_M_isBroken_106 : decode b_M_isBroken 106 = .ok (.iconst 1, 1) := by decide +kernel
theorem d_M_isBroken_107 : decode b_M_isBroken 107 = .ok (.goto 4, 3) := by decide +kernel
theorem d_M_isBroken_110 : decode b_M_isBroken 110 = .ok (.iconst 0, 1) := by decide +kernel
theorem d_M_isBroken_111 : decode b_M_isBroken 111 = .ok (.ireturn, 1) := by decide +kernel
theorem d_M_isBroken_112 : decode b_M_isBroken 112 = .ok (.aload_n 0, 1) := by decide +kernel
theorem d_M_isBroken_113 : decode b_M_isBroken 113 = .ok (.iload_n 1, 1) := by decide +kernel
theorem d_M_isBroken_114 : decode b_M_isBroken 114 = .ok (.aload_n 0, 1) := by decide +kernel
theorem d_M_isBroken_115 : decode b_M_isBroken 115 = .ok (.getfield 57, 3) := by decide +kernel
theorem d_M_isBroken_118 : decode b_M_isBroken 118 = .ok (.iload_n 2, 1) := by decide +kernel
theorem d_M_isBroken_119 : decode b_M_isBroken 119 = .ok (.iaload, 1) := by decide +kernel
theorem d_M_isBroken_120 : decode b_M_isBroken 120 = .ok (.iload_n 3, 1) := by decide +kernel
theorem d_M_isBroken_121 : decode b_M_isBroken 121 = .ok (.invokevirtual 130, 3) := by decide +kernel
theorem d_M_isBroken_124 : decode b_M_isBroken 124 = .ok (.ireturn, 1) := by decide +kernel
theorem d_M_isBroken_125 : decode b_M_isBroken 125 = .ok (.aload_n 0, 1) := by decide +kernel
theorem d_M_isBroken_126 : decode b_M_isBroken 126 = .ok (.iload_n 1, 1) := by decide +kernel
theorem d_M_isBroken_127 : decode b_M_isBroken 127 = .ok (.iconst 0, 1) := by decide +kernel
theorem d_M_isBroken_128 : decode b_M_isBroken 128 = .ok (.invokevirtual 133, 3) := by decide +kernel
theorem d_M_isBroken_131 : decode b_M_isBroken 131 = .ok (.iconst (-1), 1) := by decide +kernel
theorem d_M_isBroken_132 : decode b_M_isBroken 132 = .ok (.if_icmp .eq 7, 3) := by decide +kernel
theorem d_M_isBroken_135 : decode b_M_isBroken 135 = .ok (.iconst 1, 1) := by decide +kernel
theorem d_M_isBroken_136 : decode b_M_isBroken 136 = .ok (.goto 4, 3) := by decide +kernel
theorem d_M_isBroken_139 : decode b_M_isBroken 139 = .ok (.iconst 0, 1) := by decide +kernel
theorem d_M_isBroken_140 : decode b_M_isBroken 140 = .ok (.ireturn, 1) := by decide +kernel
theorem d_M_isBroken_141 : decode b_M_isBroken 141 = .ok (.aload_n 0, 1) := by decide +kernel
theorem d_M_isBroken_142 : decode b_M_isBroken 142 = .ok (.iload_n 1, 1) := by decide +kernel
theorem d_M_isBroken_143 : decode b_M_isBroken 143 = .ok (.iload_n 3, 1) := by decide +kernel
theorem d_M_isBroken_144 : decode b_M_isBroken 144 = .ok (.invokevirtual 136, 3) := by decide +kernel
theorem d_M_isBroken_147 : decode b_M_isBroken 147 = .ok (.ireturn, 1) := by decide +kernel
theorem d_M_isBroken_148 : decode b_M_isBroken 148 = .ok (.iconst 0, 1) := by decide +kernel
theorem d_M_isBroken_149 : decode b_M_isBroken 149 = .ok (.istore 4, 2) := by decide +kernel
theorem d_M_isBroken_151 : decode b_M_isBroken 151 = .ok (.iconst 0, 1) := by decide +kernel
theorem d_M_isBroken_152 : decode b_M_isBroken 152 = .ok (.istore 5, 2) := by decide +kernel
theorem d_M_isBroken_154 : decode b_M_isBroken 154 = .ok (.iload 5, 2) := by decide +kernel
theorem d_M_isBroken_156 : decode b_M_isBroken 156 = .ok (.aload_n 0, 1) := by decide +kernel
theorem d_M_isBroken_157 : decode b_M_isBroken 157 = .ok (.getfield 76, 3) := by decide +kernel
theorem d_M_isBroken_160 : decode b_M_isBroken 160 = .ok (.if_icmp .ge 31, 3) := by decide +kernel
theorem d_M_isBroken_163 : decode b_M_isBroken 163 = .ok (.iload 4, 2) := by decide +kernel
theorem d_M_isBroken_165 : decode b_M_isBroken 165 = .ok (.ifCond .ne 13, 3) := by decide +kernel
theorem d_M_isBroken_168 : decode b_M_isBroken 168 = .ok (.aload_n 0, 1) := by decide +kernel
theorem d_M_isBroken_169 : decode b_M_isBroken 169 = .ok (.iload_n 1, 1) := by decide +kernel
theorem d_M_isBroken_170 : decode b_M_isBroken 170 = .ok (.iload 5, 2) := by decide +kernel
theorem d_M_isBroken_172 : decode b_M_isBroken 172 = .ok (.invokevirtual 139, 3) := by decide +kernel
theorem d_M_isBroken_175 : decode b_M_isBroken 175 = .ok (.ifCond .eq 7, 3) := by decide +kernel
theorem d_M_isBroken_178 : decode b_M_isBroken 178 = .ok (.iconst 1, 1) := by decide +kernel
theorem d_M_isBroken_179 : decode b_M_isBroken 179 = .ok (.goto 4, 3) := by decide +kernel
theorem d_M_isBroken_182 : decode b_M_isBroken 182 = .ok (.iconst 0, 1) := by decide +kernel
theorem d_M_isBroken_183 : decode b_M_isBroken 183 = .ok (.istore 4, 2) := by decide +kernel
theorem d_M_isBroken_185 : decode b_M_isBroken 185 = .ok (.iinc 5 1, 3) := by decide +kernel
theorem d_M_isBroken_188 : decode b_M_isBroken 188 = .ok (.goto (-34), 3) := by decide +kernel
theorem d_M_isBroken_191 : decode b_M_isBroken 191 = .ok (.iload 4, 2) := by decide +kernel
theorem d_M_isBroken_193 : decode b_M_isBroken 193 = .ok (.ireturn, 1) := by decide +kernel
theorem d_M_isBroken_194 : decode b_M_isBroken 194 = .ok (.aload_n 0, 1) := by decide +kernel
theorem d_M_isBroken_195 : decode b_M_isBroken 195 = .ok (.getfield 45, 3) := by decide +kernel
theorem d_M_isBroken_198 : decode b_M_isBroken 198 = .ok (.iload_n 1, 1) := by decide +kernel
theorem d_M_isBroken_199 : decode b_M_isBroken 199 = .ok (.iaload, 1) := by decide +kernel
theorem d_M_isBroken_200 : decode b_M_isBroken 200 = .ok (.ifCond .ne 16, 3) := by decide +kernel
theorem d_M_isBroken_203 : decode b_M_isBroken 203 = .ok (.aload_n 0, 1) := by decide +kernel
theorem d_M_isBroken_204 : decode b_M_isBroken 204 = .ok (.getfield 51, 3) := by decide +kernel
theorem d_M_isBroken_207 : decode b_M_isBroken 207 = .ok (.iload_n 1, 1) := by decide +kernel
theorem d_M_isBroken_208 : decode b_M_isBroken 208 = .ok (.iaload, 1) := by decide +kernel
theorem d_M_isBroken_209 : decode b_M_isBroken 209 = .ok (.ifCond .ne 7, 3) := by decide +kernel
theorem d_M_isBroken_212 : decode b_M_isBroken 212 = .ok (.iconst 1, 1) := by decide +kernel
theorem d_M_isBroken_213 : decode b_M_isBroken 213 = .ok (.goto 4, 3) := by decide +kernel
theorem d_M_isBroken_216 : decode b_M_isBroken 216 = .ok (.iconst 0, 1) := by decide +kernel
theorem d_M_isBroken_217 : decode b_M_isBroken 217 = .ok (.ireturn, 1) := by decide +kernel
theorem d_M_isBroken_218 : decode b_M_isBroken 218 = .ok (.aload_n 0, 1) := by decide +kernel
theorem d_M_isBroken_219 : decode b_M_isBroken 219 = .ok (.iload_n 1, 1) := by decide +kernel
theorem d_M_isBroken_220 : decode b_M_isBroken 220 = .ok (.invokevirtual 117, 3) := by decide +kernel
theorem d_M_isBroken_223 : decode b_M_isBroken 223 = .ok (.aload_n 0, 1) := by decide +kernel
theorem d_M_isBroken_224 : decode b_M_isBroken 224 = .ok (.getfield 106, 3) := by decide +kernel
theorem d_M_isBroken_227 : decode b_M_isBroken 227 = .ok (.iload_n 3, 1) := by decide +kernel
theorem d_M_isBroken_228 : decode b_M_isBroken 228 = .ok (.if_icmp .le 7, 3) := by decide +kernel
theorem d_M_isBroken_231 : decode b_M_isBroken 231 = .ok (.iconst 1, 1) := by decide +kernel
theorem d_M_isBroken_232 : decode b_M_isBroken 232 = .ok (.goto 4, 3) := by decide +kernel
theorem d_M_isBroken_235 : decode b_M_isBroken 235 = .ok (.iconst 0, 1) := by decide +kernel
theorem d_M_isBroken_236 : decode b_M_isBroken 236 = .ok (.ireturn, 1) := by decide +kernel
theorem d_M_breaks_0 : decode b_M_breaks 0 = .ok (.aload_n 0, 1) := by decide +kernel
theorem d_M_breaks_1 : decode b_M_breaks 1 = .ok (.iload_n 1, 1) := by decide +kernel
theorem d_M_breaks_2 : decode b_M_breaks 2 = .ok (.invokevirtual 92, 3) := by decide +kernel
theorem d_M_breaks_5 : decode b_M_breaks 5 = .ok (.ifCond .eq 28, 3) := by decide +kernel
theorem d_M_breaks_8 : decode b_M_breaks 8 = .ok (.iload_n 2, 1) := by decide +kernel
theorem d_M_breaks_9 : decode b_M_breaks 9 = .ok (.ifCond .lt 24, 3) := by decide +kernel
theorem d_M_breaks_12 : decode b_M_breaks 12 = .ok (.iload_n 2, 1) := by decide +kernel
theorem d_M_breaks_13 : decode b_M_breaks 13 = .ok (.aload_n 0, 1) := by decide +kernel
theorem d_M_breaks_14 : decode b_M_breaks 14 = .ok (.getfield 103, 3) := by decide +kernel
theorem d_M_breaks_17 : decode b_M_breaks 17 = .ok (.if_icmp .ge 16, 3) := by decide +kernel
theorem d_M_breaks_20 : decode b_M_breaks 20 = .ok (.aload_n 0, 1) := by decide +kernel
theorem d_M_breaks_21 : decode b_M_breaks 21 = .ok (.iload_n 1, 1) := by decide +kernel
theorem d_M_breaks_22 : decode b_M_breaks 22 = .ok (.iload_n 2, 1) := by decide +kernel
theorem d_M_breaks_23 : decode b_M_breaks 23 = .ok (.invokevirtual 142, 3) := by decide +kernel
theorem d_M_breaks_26 : decode b_M_breaks 26 = .ok (.ifCond .eq 7, 3) := by decide +kernel
theorem d_M_breaks_29 : decode b_M_breaks 29 = .ok (.iconst 1, 1) := by decide +kernel
theorem d_M_breaks_30 : decode b_M_breaks 30 = .ok (.goto 4, 3) := by decide +kernel
theorem d_M_breaks_33 : decode b_M_breaks 33 = .ok (.iconst 0, 1) := by decide +kernel
theorem d_M_breaks_34 : decode b_M_breaks 34 = .ok (.ireturn, 1) := by decide +kernel
theorem d_M_verdict_0 : decode b_M_verdict 0 = .ok (.aload_n 0, 1) := by decide +kernel
theorem d_M_verdict_1 : decode b_M_verdict 1 = .ok (.iload_n 1, 1) := by decide +kernel
theorem d_M_verdict_2 : decode b_M_verdict 2 = .ok (.invokevirtual 92, 3) := by decide +kernel
theorem d_M_verdict_5 : decode b_M_verdict 5 = .ok (.ifCond .ne 6, 3) := by decide +kernel
theorem d_M_verdict_8 : decode b_M_verdict 8 = .ok (.bipush (-2), 2) := by decide +kernel
theorem d_M_verdict_10 : decode b_M_verdict 10 = .ok (.ireturn, 1) := by decide +kernel
theorem d_M_verdict_11 : decode b_M_verdict 11 = .ok (.aload_n 0, 1) := by decide +kernel
theorem d_M_verdict_12 : decode b_M_verdict 12 = .ok (.iload_n 1, 1) := by decide +kernel
theorem d_M_verdict_13 : decode b_M_verdict 13 = .ok (.invokevirtual 117, 3) := by decide +kernel
theorem d_M_verdict_16 : decode b_M_verdict 16 = .ok (.aload_n 0, 1) := by decide +kernel
theorem d_M_verdict_17 : decode b_M_verdict 17 = .ok (.aload_n 0, 1) := by decide +kernel
theorem d_M_verdict_18 : decode b_M_verdict 18 = .ok (.getfield 106, 3) := by decide +kernel
theorem d_M_verdict_21 : decode b_M_verdict 21 = .ok (.putfield 145, 3) := by decide +kernel
theorem d_M_verdict_24 : decode b_M_verdict 24 = .ok (.iconst 0, 1) := by decide +kernel
theorem d_M_verdict_25 : decode b_M_verdict 25 = .ok (.istore_n 2, 1) := by decide +kernel
theorem d_M_verdict_26 : decode b_M_verdict 26 = .ok (.iload_n 2, 1) := by decide +kernel
theorem d_M_verdict_27 : decode b_M_verdict 27 = .ok (.aload_n 0, 1) := by decide +kernel
theorem d_M_verdict_28 : decode b_M_verdict 28 = .ok (.getfield 145, 3) := by decide +kernel
theorem d_M_verdict_31 : decode b_M_verdict 31 = .ok (.if_icmp .ge 21, 3) := by decide +kernel
theorem d_M_verdict_34 : decode b_M_verdict 34 = .ok (.aload_n 0, 1) := by decide +kernel
theorem d_M_verdict_35 : decode b_M_verdict 35 = .ok (.getfield 70, 3) := by decide +kernel
theorem d_M_verdict_38 : decode b_M_verdict 38 = .ok (.iload_n 2, 1) := by decide +kernel
theorem d_M_verdict_39 : decode b_M_verdict 39 = .ok (.aload_n 0, 1) := by decide +kernel
theorem d_M_verdict_40 : decode b_M_verdict 40 = .ok (.getfield 67, 3) := by decide +kernel
theorem d_M_verdict_43 : decode b_M_verdict 43 = .ok (.iload_n 2, 1) := by decide +kernel
theorem d_M_verdict_44 : decode b_M_verdict 44 = .ok (.iaload, 1) := by decide +kernel
theorem d_M_verdict_45 : decode b_M_verdict 45 = .ok (.iastore, 1) := by decide +kernel
theorem d_M_verdict_46 : decode b_M_verdict 46 = .ok (.iinc 2 1, 3) := by decide +kernel
theorem d_M_verdict_49 : decode b_M_verdict 49 = .ok (.goto (-23), 3) := by decide +kernel
theorem d_M_verdict_52 : decode b_M_verdict 52 = .ok (.iconst 0, 1) := by decide +kernel
theorem d_M_verdict_53 : decode b_M_verdict 53 = .ok (.istore_n 2, 1) := by decide +kernel
theorem d_M_verdict_54 : decode b_M_verdict 54 = .ok (.iload_n 2, 1) := by decide +kernel
theorem d_M_verdict_55 : decode b_M_verdict 55 = .ok (.aload_n 0, 1) := by decide +kernel
theorem d_M_verdict_56 : decode b_M_verdict 56 = .ok (.getfield 145, 3) := by decide +kernel
theorem d_M_verdict_59 : decode b_M_verdict 59 = .ok (.if_icmp .ge 54, 3) := by decide +kernel
theorem d_M_verdict_62 : decode b_M_verdict 62 = .ok (.iconst 0, 1) := by decide +kernel
theorem d_M_verdict_63 : decode b_M_verdict 63 = .ok (.istore_n 3, 1) := by decide +kernel
theorem d_M_verdict_64 : decode b_M_verdict 64 = .ok (.iload_n 3, 1) := by decide +kernel
theorem d_M_verdict_65 : decode b_M_verdict 65 = .ok (.aload_n 0, 1) := by decide +kernel
theorem d_M_verdict_66 : decode b_M_verdict 66 = .ok (.getfield 103, 3) := by decide +kernel
theorem d_M_verdict_69 : decode b_M_verdict 69 = .ok (.if_icmp .ge 38, 3) := by decide +kernel
theorem d_M_verdict_72 : decode b_M_verdict 72 = .ok (.aload_n 0, 1) := by decide +kernel
theorem d_M_verdict_73 : decode b_M_verdict 73 = .ok (.aload_n 0, 1) := by decide +kernel
theorem d_M_verdict_74 : decode b_M_verdict 74 = .ok (.getfield 70, 3) := by decide +kernel
theorem d_M_verdict_77 : decode b_M_verdict 77 = .ok (.iload_n 2, 1) := by decide +kernel
theorem d_M_verdict_78 : decode b_M_verdict 78 = .ok (.iaload, 1) := by decide +kernel
theorem d_M_verdict_79 : decode b_M_verdict 79 = .ok (.iload_n 3, 1) := by decide +kernel
theorem d_M_verdict_80 : decode b_M_verdict 80 = .ok (.invokevirtual 142, 3) := by decide +kernel
theorem d_M_verdict_83 : decode b_M_verdict 83 = .ok (.ifCond .ne 6, 3) := by decide +kernel
theorem d_M_verdict_86 : decode b_M_verdict 86 = .ok (.goto 15, 3) := by decide +kernel
theorem d_M_verdict_89 : decode b_M_verdict 89 = .ok (.aload_n 0, 1) := by decide +kernel
theorem d_M_verdict_90 : decode b_M_verdict 90 = .ok (.aload_n 0, 1) := by decide +kernel
theorem d_M_verdict_91 : decode b_M_verdict 91 = .ok (.getfield 70, 3) := by decide +kernel
theorem d_M_verdict_94 : decode b_M_verdict 94 = .ok (.iload_n 2, 1) := by decide +kernel
theorem d_M_verdict_95 : decode b_M_verdict 95 = .ok (.iaload, 1) := by decide +kernel
theorem d_M_verdict_96 : decode b_M_verdict 96 = .ok (.putfield 63, 3) := by decide +kernel
theorem d_M_verdict_99 : decode b_M_verdict 99 = .ok (.iload_n 3, 1) := by decide +kernel
theorem d_M_verdict_100 : decode b_M_verdict 100 = .ok (.ireturn, 1) := by decide +kernel
theorem d_M_verdict_101 : decode b_M_verdict 101 = .ok (.iinc 3 1, 3) := by decide +kernel
theorem d_M_verdict_104 : decode b_M_verdict 104 = .ok (.goto (-40), 3) := by decide +kernel
theorem d_M_verdict_107 : decode b_M_verdict 107 = .ok (.iinc 2 1, 3) := by decide +kernel
theorem d_M_verdict_110 : decode b_M_verdict 110 = .ok (.goto (-56), 3) := by decide +kernel
theorem d_M_verdict_113 : decode b_M_verdict 113 = .ok (.iconst (-1), 1) := by decide +kernel
theorem d_M_verdict_114 : decode b_M_verdict 114 = .ok (.ireturn, 1) := by decide +kernel
theorem d_M_culprit_0 : decode b_M_culprit 0 = .ok (.aload_n 0, 1) := by decide +kernel
theorem d_M_culprit_1 : decode b_M_culprit 1 = .ok (.getfield 63, 3) := by decide +kernel
theorem d_M_culprit_4 : decode b_M_culprit 4 = .ok (.ireturn, 1) := by decide +kernel
theorem d_M_rebuilt_0 : decode b_M_rebuilt 0 = .ok (.aload_n 0, 1) := by decide +kernel
theorem d_M_rebuilt_1 : decode b_M_rebuilt 1 = .ok (.iload_n 1, 1) := by decide +kernel
theorem d_M_rebuilt_2 : decode b_M_rebuilt 2 = .ok (.invokevirtual 92, 3) := by decide +kernel
theorem d_M_rebuilt_5 : decode b_M_rebuilt 5 = .ok (.ifCond .eq 11, 3) := by decide +kernel
theorem d_M_rebuilt_8 : decode b_M_rebuilt 8 = .ok (.aload_n 0, 1) := by decide +kernel
theorem d_M_rebuilt_9 : decode b_M_rebuilt 9 = .ok (.iload_n 2, 1) := by decide +kernel
theorem d_M_rebuilt_10 : decode b_M_rebuilt 10 = .ok (.invokevirtual 92, 3) := by decide +kernel
theorem d_M_rebuilt_13 : decode b_M_rebuilt 13 = .ok (.ifCond .ne 5, 3) := by decide +kernel
theorem d_M_rebuilt_16 : decode b_M_rebuilt 16 = .ok (.iconst (-1), 1) := by decide +kernel
theorem d_M_rebuilt_17 : decode b_M_rebuilt 17 = .ok (.ireturn, 1) := by decide +kernel
theorem d_M_rebuilt_18 : decode b_M_rebuilt 18 = .ok (.iconst 0, 1) := by decide +kernel
theorem d_M_rebuilt_19 : decode b_M_rebuilt 19 = .ok (.istore_n 3, 1) := by decide +kernel
theorem d_M_rebuilt_20 : decode b_M_rebuilt 20 = .ok (.iconst 0, 1) := by decide +kernel
theorem d_M_rebuilt_21 : decode b_M_rebuilt 21 = .ok (.istore 4, 2) := by decide +kernel
theorem d_M_rebuilt_23 : decode b_M_rebuilt 23 = .ok (.iload 4, 2) := by decide +kernel
theorem d_M_rebuilt_25 : decode b_M_rebuilt 25 = .ok (.bipush 8, 2) := by decide +kernel
theorem d_M_rebuilt_27 : decode b_M_rebuilt 27 = .ok (.if_icmp .ge 100, 3) := by decide +kernel
theorem d_M_rebuilt_30 : decode b_M_rebuilt 30 = .ok (.aload_n 0, 1) := by decide +kernel
theorem d_M_rebuilt_31 : decode b_M_rebuilt 31 = .ok (.getfield 54, 3) := by decide +kernel
theorem d_M_rebuilt_34 : decode b_M_rebuilt 34 = .ok (.iload_n 1, 1) := by decide +kernel
theorem d_M_rebuilt_35 : decode b_M_rebuilt 35 = .ok (.iaload, 1) := by decide +kernel
theorem d_M_rebuilt_36 : decode b_M_rebuilt 36 = .ok (.iload 4, 2) := by decide +kernel
theorem d_M_rebuilt_38 : decode b_M_rebuilt 38 = .ok (.ishr, 1) := by decide +kernel
theorem d_M_rebuilt_39 : decode b_M_rebuilt 39 = .ok (.iconst 1, 1) := by decide +kernel
theorem d_M_rebuilt_40 : decode b_M_rebuilt 40 = .ok (.iand, 1) := by decide +kernel
theorem d_M_rebuilt_41 : decode b_M_rebuilt 41 = .ok (.iconst 1, 1) := by decide +kernel
theorem d_M_rebuilt_42 : decode b_M_rebuilt 42 = .ok (.if_icmp .ne 7, 3) := by decide +kernel
theorem d_M_rebuilt_45 : decode b_M_rebuilt 45 = .ok (.iconst 1, 1) := by decide +kernel
theorem d_M_rebuilt_46 : decode b_M_rebuilt 46 = .ok (.goto 4, 3) := by decide +kernel
theorem d_M_rebuilt_49 : decode b_M_rebuilt 49 = .ok (.iconst 0, 1) := by decide +kernel
theorem d_M_rebuilt_50 : decode b_M_rebuilt 50 = .ok (.istore 5, 2) := by decide +kernel
theorem d_M_rebuilt_52 : decode b_M_rebuilt 52 = .ok (.aload_n 0, 1) := by decide +kernel
theorem d_M_rebuilt_53 : decode b_M_rebuilt 53 = .ok (.getfield 54, 3) := by decide +kernel
theorem d_M_rebuilt_56 : decode b_M_rebuilt 56 = .ok (.iload_n 2, 1) := by decide +kernel
theorem d_M_rebuilt_57 : decode b_M_rebuilt 57 = .ok (.iaload, 1) := by decide +kernel
theorem d_M_rebuilt_58 : decode b_M_rebuilt 58 = .ok (.iload 4, 2) := by decide +kernel
theorem d_M_rebuilt_60 : decode b_M_rebuilt 60 = .ok (.ishr, 1) := by decide +kernel
theorem d_M_rebuilt_61 : decode b_M_rebuilt 61 = .ok (.iconst 1, 1) := by decide +kernel
theorem d_M_rebuilt_62 : decode b_M_rebuilt 62 = .ok (.iand, 1) := by decide +kernel
theorem d_M_rebuilt_63 : decode b_M_rebuilt 63 = .ok (.iconst 1, 1) := by decide +kernel
theorem d_M_rebuilt_64 : decode b_M_rebuilt 64 = .ok (.if_icmp .ne 7, 3) := by decide +kernel
theorem d_M_rebuilt_67 : decode b_M_rebuilt 67 = .ok (.iconst 1, 1) := by decide +kernel
theorem d_M_rebuilt_68 : decode b_M_rebuilt 68 = .ok (.goto 4, 3) := by decide +kernel
theorem d_M_rebuilt_71 : decode b_M_rebuilt 71 = .ok (.iconst 0, 1) := by decide +kernel
theorem d_M_rebuilt_72 : decode b_M_rebuilt 72 = .ok (.istore 6, 2) := by decide +kernel
theorem d_M_rebuilt_74 : decode b_M_rebuilt 74 = .ok (.iload 5, 2) := by decide +kernel
theorem d_M_rebuilt_76 : decode b_M_rebuilt 76 = .ok (.iload 6, 2) := by decide +kernel
theorem d_M_rebuilt_78 : decode b_M_rebuilt 78 = .ok (.if_icmp .ne 36, 3) := by decide +kernel
theorem d_M_rebuilt_81 : decode b_M_rebuilt 81 = .ok (.iload 5, 2) := by decide +kernel
theorem d_M_rebuilt_83 : decode b_M_rebuilt 83 = .ok (.ifCond .eq 38, 3) := by decide +kernel
theorem d_M_rebuilt_86 : decode b_M_rebuilt 86 = .ok (.aload_n 0, 1) := by decide +kernel
theorem d_M_rebuilt_87 : decode b_M_rebuilt 87 = .ok (.getfield 30, 3) := by decide +kernel
theorem d_M_rebuilt_90 : decode b_M_rebuilt 90 = .ok (.bipush 8, 2) := by decide +kernel
theorem d_M_rebuilt_92 : decode b_M_rebuilt 92 = .ok (.iload_n 1, 1) := by decide +kernel
theorem d_M_rebuilt_93 : decode b_M_rebuilt 93 = .ok (.imul, 1) := by decide +kernel
theorem d_M_rebuilt_94 : decode b_M_rebuilt 94 = .ok (.iload 4, 2) := by decide +kernel
theorem d_M_rebuilt_96 : decode b_M_rebuilt 96 = .ok (.iadd, 1) := by decide +kernel
theorem d_M_rebuilt_97 : decode b_M_rebuilt 97 = .ok (.laload, 1) := by decide +kernel
theorem d_M_rebuilt_98 : decode b_M_rebuilt 98 = .ok (.aload_n 0, 1) := by decide +kernel
theorem d_M_rebuilt_99 : decode b_M_rebuilt 99 = .ok (.getfield 30, 3) := by decide +kernel
theorem d_M_rebuilt_102 : decode b_M_rebuilt 102 = .ok (.bipush 8, 2) := by decide +kernel
theorem d_M_rebuilt_104 : decode b_M_rebuilt 104 = .ok (.iload_n 2, 1) := by decide +kernel
theorem d_M_rebuilt_105 : decode b_M_rebuilt 105 = .ok (.imul, 1) := by decide +kernel
theorem d_M_rebuilt_106 : decode b_M_rebuilt 106 = .ok (.iload 4, 2) := by decide +kernel
theorem d_M_rebuilt_108 : decode b_M_rebuilt 108 = .ok (.iadd, 1) := by decide +kernel
theorem d_M_rebuilt_109 : decode b_M_rebuilt 109 = .ok (.laload, 1) := by decide +kernel
theorem d_M_rebuilt_110 : decode b_M_rebuilt 110 = .ok (.lcmp, 1) := by decide +kernel
theorem d_M_rebuilt_111 : decode b_M_rebuilt 111 = .ok (.ifCond .eq 10, 3) := by decide +kernel
theorem d_M_rebuilt_114 : decode b_M_rebuilt 114 = .ok (.iload_n 3, 1) := by decide +kernel
theorem d_M_rebuilt_115 : decode b_M_rebuilt 115 = .ok (.iconst 1, 1) := by decide +kernel
theorem d_M_rebuilt_116 : decode b_M_rebuilt 116 = .ok (.iload 4, 2) := by decide +kernel
theorem d_M_rebuilt_118 : decode b_M_rebuilt 118 = .ok (.ishl, 1) := by decide +kernel
theorem d_M_rebuilt_119 : decode b_M_rebuilt 119 = .ok (.ior, 1) := by decide +kernel
theorem d_M_rebuilt_120 : decode b_M_rebuilt 120 = .ok (.istore_n 3, 1) := by decide +kernel
theorem d_M_rebuilt_121 : decode b_M_rebuilt 121 = .ok (.iinc 4 1, 3) := by decide +kernel
theorem d_M_rebuilt_124 : decode b_M_rebuilt 124 = .ok (.goto (-101), 3) := by decide +kernel
theorem d_M_rebuilt_127 : decode b_M_rebuilt 127 = .ok (.iload_n 3, 1) := by decide +kernel
theorem d_M_rebuilt_128 : decode b_M_rebuilt 128 = .ok (.ireturn, 1) := by decide +kernel
theorem d_M_sameSources_0 : decode b_M_sameSources 0 = .ok (.aload_n 0, 1) := by decide +kernel
theorem d_M_sameSources_1 : decode b_M_sameSources 1 = .ok (.getfield 45, 3) := by decide +kernel
theorem d_M_sameSources_4 : decode b_M_sameSources 4 = .ok (.iload_n 1, 1) := by decide +kernel
theorem d_M_sameSources_5 : decode b_M_sameSources 5 = .ok (.iaload, 1) := by decide +kernel
theorem d_M_sameSources_6 : decode b_M_sameSources 6 = .ok (.aload_n 0, 1) := by decide +kernel
theorem d_M_sameSources_7 : decode b_M_sameSources 7 = .ok (.getfield 45, 3) := by decide +kernel
theorem d_M_sameSources_10 : decode b_M_sameSources 10 = .ok (.iload_n 2, 1) := by decide +kernel
theorem d_M_sameSources_11 : decode b_M_sameSources 11 = .ok (.iaload, 1) := by decide +kernel
theorem d_M_sameSources_12 : decode b_M_sameSources 12 = .ok (.if_icmp .ne 7, 3) := by decide +kernel
theorem d_M_sameSources_15 : decode b_M_sameSources 15 = .ok (.iconst 1, 1) := by decide +kernel
theorem d_M_sameSources_16 : decode b_M_sameSources 16 = .ok (.goto 4, 3) := by decide +kernel
theorem d_M_sameSources_19 : decode b_M_sameSources 19 = .ok (.iconst 0, 1) := by decide +kernel
theorem d_M_sameSources_20 : decode b_M_sameSources 20 = .ok (.istore_n 3, 1) := by decide +kernel
theorem d_M_sameSources_21 : decode b_M_sameSources 21 = .ok (.iconst 0, 1) := by decide +kernel
theorem d_M_sameSources_22 : decode b_M_sameSources 22 = .ok (.istore 4, 2) := by decide +kernel
theorem d_M_sameSources_24 : decode b_M_sameSources 24 = .ok (.iload 4, 2) := by decide +kernel
theorem d_M_sameSources_26 : decode b_M_sameSources 26 = .ok (.aload_n 0, 1) := by decide +kernel
theorem d_M_sameSources_27 : decode b_M_sameSources 27 = .ok (.getfield 45, 3) := by decide +kernel
theorem d_M_sameSources_30 : decode b_M_sameSources 30 = .ok (.iload_n 1, 1) := by decide +kernel
theorem d_M_sameSources_31 : decode b_M_sameSources 31 = .ok (.iaload, 1) := by decide +kernel
theorem d_M_sameSources_32 : decode b_M_sameSources 32 = .ok (.if_icmp .ge 31, 3) := by decide +kernel
theorem d_M_sameSources_35 : decode b_M_sameSources 35 = .ok (.iload_n 3, 1) := by decide +kernel
theorem d_M_sameSources_36 : decode b_M_sameSources 36 = .ok (.ifCond .eq 27, 3) := by decide +kernel
theorem d_M_sameSources_39 : decode b_M_sameSources 39 = .ok (.aload_n 0, 1) := by decide +kernel
theorem d_M_sameSources_40 : decode b_M_sameSources 40 = .ok (.iload_n 2, 1) := by decide +kernel
theorem d_M_sameSources_41 : decode b_M_sameSources 41 = .ok (.aload_n 0, 1) := by decide +kernel
theorem d_M_sameSources_42 : decode b_M_sameSources 42 = .ok (.getfield 48, 3) := by decide +kernel
theorem d_M_sameSources_45 : decode b_M_sameSources 45 = .ok (.bipush 6, 2) := by decide +kernel
theorem d_M_sameSources_47 : decode b_M_sameSources 47 = .ok (.iload_n 1, 1) := by decide +kernel
theorem d_M_sameSources_48 : decode b_M_sameSources 48 = .ok (.imul, 1) := by decide +kernel
theorem d_M_sameSources_49 : decode b_M_sameSources 49 = .ok (.iload 4, 2) := by decide +kernel
theorem d_M_sameSources_51 : decode b_M_sameSources 51 = .ok (.iadd, 1) := by decide +kernel
theorem d_M_sameSources_52 : decode b_M_sameSources 52 = .ok (.iaload, 1) := by decide +kernel
theorem d_M_sameSources_53 : decode b_M_sameSources 53 = .ok (.invokevirtual 95, 3) := by decide +kernel
theorem d_M_sameSources_56 : decode b_M_sameSources 56 = .ok (.istore_n 3, 1) := by decide +kernel
theorem d_M_sameSources_57 : decode b_M_sameSources 57 = .ok (.iinc 4 1, 3) := by decide +kernel
theorem d_M_sameSources_60 : decode b_M_sameSources 60 = .ok (.goto (-36), 3) := by decide +kernel
theorem d_M_sameSources_63 : decode b_M_sameSources 63 = .ok (.iload_n 3, 1) := by decide +kernel
theorem d_M_sameSources_64 : decode b_M_sameSources 64 = .ok (.ireturn, 1) := by decide +kernel
theorem d_M_sameNeeds_0 : decode b_M_sameNeeds 0 = .ok (.aload_n 0, 1) := by decide +kernel
theorem d_M_sameNeeds_1 : decode b_M_sameNeeds 1 = .ok (.getfield 51, 3) := by decide +kernel
theorem d_M_sameNeeds_4 : decode b_M_sameNeeds 4 = .ok (.iload_n 1, 1) := by decide +kernel
theorem d_M_sameNeeds_5 : decode b_M_sameNeeds 5 = .ok (.iaload, 1) := by decide +kernel
theorem d_M_sameNeeds_6 : decode b_M_sameNeeds 6 = .ok (.aload_n 0, 1) := by decide +kernel
theorem d_M_sameNeeds_7 : decode b_M_sameNeeds 7 = .ok (.getfield 51, 3) := by decide +kernel
theorem d_M_sameNeeds_10 : decode b_M_sameNeeds 10 = .ok (.iload_n 2, 1) := by decide +kernel
theorem d_M_sameNeeds_11 : decode b_M_sameNeeds 11 = .ok (.iaload, 1) := by decide +kernel
theorem d_M_sameNeeds_12 : decode b_M_sameNeeds 12 = .ok (.if_icmp .ne 7, 3) := by decide +kernel
theorem d_M_sameNeeds_15 : decode b_M_sameNeeds 15 = .ok (.iconst 1, 1) := by decide +kernel
theorem d_M_sameNeeds_16 : decode b_M_sameNeeds 16 = .ok (.goto 4, 3) := by decide +kernel
theorem d_M_sameNeeds_19 : decode b_M_sameNeeds 19 = .ok (.iconst 0, 1) := by decide +kernel
theorem d_M_sameNeeds_20 : decode b_M_sameNeeds 20 = .ok (.istore_n 3, 1) := by decide +kernel
theorem d_M_sameNeeds_21 : decode b_M_sameNeeds 21 = .ok (.iconst 0, 1) := by decide +kernel
theorem d_M_sameNeeds_22 : decode b_M_sameNeeds 22 = .ok (.istore 4, 2) := by decide +kernel
theorem d_M_sameNeeds_24 : decode b_M_sameNeeds 24 = .ok (.iload 4, 2) := by decide +kernel
theorem d_M_sameNeeds_26 : decode b_M_sameNeeds 26 = .ok (.aload_n 0, 1) := by decide +kernel
theorem d_M_sameNeeds_27 : decode b_M_sameNeeds 27 = .ok (.getfield 51, 3) := by decide +kernel
theorem d_M_sameNeeds_30 : decode b_M_sameNeeds 30 = .ok (.iload_n 1, 1) := by decide +kernel
theorem d_M_sameNeeds_31 : decode b_M_sameNeeds 31 = .ok (.iaload, 1) := by decide +kernel
theorem d_M_sameNeeds_32 : decode b_M_sameNeeds 32 = .ok (.if_icmp .ge 31, 3) := by decide +kernel
theorem d_M_sameNeeds_35 : decode b_M_sameNeeds 35 = .ok (.iload_n 3, 1) := by decide +kernel
theorem d_M_sameNeeds_36 : decode b_M_sameNeeds 36 = .ok (.ifCond .eq 27, 3) := by decide +kernel
theorem d_M_sameNeeds_39 : decode b_M_sameNeeds 39 = .ok (.aload_n 0, 1) := by decide +kernel
theorem d_M_sameNeeds_40 : decode b_M_sameNeeds 40 = .ok (.iload_n 2, 1) := by decide +kernel
theorem d_M_sameNeeds_41 : decode b_M_sameNeeds 41 = .ok (.aload_n 0, 1) := by decide +kernel
theorem d_M_sameNeeds_42 : decode b_M_sameNeeds 42 = .ok (.getfield 27, 3) := by decide +kernel
theorem d_M_sameNeeds_45 : decode b_M_sameNeeds 45 = .ok (.bipush 6, 2) := by decide +kernel
theorem d_M_sameNeeds_47 : decode b_M_sameNeeds 47 = .ok (.iload_n 1, 1) := by decide +kernel
theorem d_M_sameNeeds_48 : decode b_M_sameNeeds 48 = .ok (.imul, 1) := by decide +kernel
theorem d_M_sameNeeds_49 : decode b_M_sameNeeds 49 = .ok (.iload 4, 2) := by decide +kernel
theorem d_M_sameNeeds_51 : decode b_M_sameNeeds 51 = .ok (.iadd, 1) := by decide +kernel
theorem d_M_sameNeeds_52 : decode b_M_sameNeeds 52 = .ok (.laload, 1) := by decide +kernel
theorem d_M_sameNeeds_53 : decode b_M_sameNeeds 53 = .ok (.invokevirtual 99, 3) := by decide +kernel
theorem d_M_sameNeeds_56 : decode b_M_sameNeeds 56 = .ok (.istore_n 3, 1) := by decide +kernel
theorem d_M_sameNeeds_57 : decode b_M_sameNeeds 57 = .ok (.iinc 4 1, 3) := by decide +kernel
theorem d_M_sameNeeds_60 : decode b_M_sameNeeds 60 = .ok (.goto (-36), 3) := by decide +kernel
theorem d_M_sameNeeds_63 : decode b_M_sameNeeds 63 = .ok (.iload_n 3, 1) := by decide +kernel
theorem d_M_sameNeeds_64 : decode b_M_sameNeeds 64 = .ok (.ireturn, 1) := by decide +kernel
theorem d_M_differ_0 : decode b_M_differ 0 = .ok (.aload_n 0, 1) := by decide +kernel
theorem d_M_differ_1 : decode b_M_differ 1 = .ok (.iload_n 1, 1) := by decide +kernel
theorem d_M_differ_2 : decode b_M_differ 2 = .ok (.invokevirtual 92, 3) := by decide +kernel
theorem d_M_differ_5 : decode b_M_differ 5 = .ok (.ifCond .eq 11, 3) := by decide +kernel
theorem d_M_differ_8 : decode b_M_differ 8 = .ok (.aload_n 0, 1) := by decide +kernel
theorem d_M_differ_9 : decode b_M_differ 9 = .ok (.iload_n 2, 1) := by decide +kernel
theorem d_M_differ_10 : decode b_M_differ 10 = .ok (.invokevirtual 92, 3) := by decide +kernel
theorem d_M_differ_13 : decode b_M_differ 13 = .ok (.ifCond .ne 5, 3) := by decide +kernel
theorem d_M_differ_16 : decode b_M_differ 16 = .ok (.iconst (-1), 1) := by decide +kernel
theorem d_M_differ_17 : decode b_M_differ 17 = .ok (.ireturn, 1) := by decide +kernel
theorem d_M_differ_18 : decode b_M_differ 18 = .ok (.aload_n 0, 1) := by decide +kernel
theorem d_M_differ_19 : decode b_M_differ 19 = .ok (.getfield 24, 3) := by decide +kernel
theorem d_M_differ_22 : decode b_M_differ 22 = .ok (.iload_n 1, 1) := by decide +kernel
theorem d_M_differ_23 : decode b_M_differ 23 = .ok (.laload, 1) := by decide +kernel
theorem d_M_differ_24 : decode b_M_differ 24 = .ok (.aload_n 0, 1) := by decide +kernel
theorem d_M_differ_25 : decode b_M_differ 25 = .ok (.getfield 24, 3) := by decide +kernel
theorem d_M_differ_28 : decode b_M_differ 28 = .ok (.iload_n 2, 1) := by decide +kernel
theorem d_M_differ_29 : decode b_M_differ 29 = .ok (.laload, 1) := by decide +kernel
theorem d_M_differ_30 : decode b_M_differ 30 = .ok (.lcmp, 1) := by decide +kernel
theorem d_M_differ_31 : decode b_M_differ 31 = .ok (.ifCond .eq 7, 3) := by decide +kernel
theorem d_M_differ_34 : decode b_M_differ 34 = .ok (.iconst 1, 1) := by decide +kernel
theorem d_M_differ_35 : decode b_M_differ 35 = .ok (.goto 4, 3) := by decide +kernel
theorem d_M_differ_38 : decode b_M_differ 38 = .ok (.iconst 0, 1) := by decide +kernel
theorem d_M_differ_39 : decode b_M_differ 39 = .ok (.istore_n 3, 1) := by decide +kernel
theorem d_M_differ_40 : decode b_M_differ 40 = .ok (.iload_n 3, 1) := by decide +kernel
theorem d_M_differ_41 : decode b_M_differ 41 = .ok (.aload_n 0, 1) := by decide +kernel
theorem d_M_differ_42 : decode b_M_differ 42 = .ok (.getfield 33, 3) := by decide +kernel
theorem d_M_differ_45 : decode b_M_differ 45 = .ok (.iload_n 1, 1) := by decide +kernel
theorem d_M_differ_46 : decode b_M_differ 46 = .ok (.iaload, 1) := by decide +kernel
theorem d_M_differ_47 : decode b_M_differ 47 = .ok (.aload_n 0, 1) := by decide +kernel
theorem d_M_differ_48 : decode b_M_differ 48 = .ok (.getfield 33, 3) := by decide +kernel
theorem d_M_differ_51 : decode b_M_differ 51 = .ok (.iload_n 2, 1) := by decide +kernel
theorem d_M_differ_52 : decode b_M_differ 52 = .ok (.iaload, 1) := by decide +kernel
theorem d_M_differ_53 : decode b_M_differ 53 = .ok (.if_icmp .eq 7, 3) := by decide +kernel
theorem d_M_differ_56 : decode b_M_differ 56 = .ok (.iconst 2, 1) := by decide +kernel
theorem d_M_differ_57 : decode b_M_differ 57 = .ok (.goto 4, 3) := by decide +kernel
theorem d_M_differ_60 : decode b_M_differ 60 = .ok (.iconst 0, 1) := by decide +kernel
theorem d_M_differ_61 : decode b_M_differ 61 = .ok (.iadd, 1) := by decide +kernel
theorem d_M_differ_62 : decode b_M_differ 62 = .ok (.istore_n 3, 1) := by decide +kernel
theorem d_M_differ_63 : decode b_M_differ 63 = .ok (.iload_n 3, 1) := by decide +kernel
theorem d_M_differ_64 : decode b_M_differ 64 = .ok (.aload_n 0, 1) := by decide +kernel
theorem d_M_differ_65 : decode b_M_differ 65 = .ok (.getfield 36, 3) := by decide +kernel
theorem d_M_differ_68 : decode b_M_differ 68 = .ok (.iload_n 1, 1) := by decide +kernel
theorem d_M_differ_69 : decode b_M_differ 69 = .ok (.iaload, 1) := by decide +kernel
theorem d_M_differ_70 : decode b_M_differ 70 = .ok (.aload_n 0, 1) := by decide +kernel
theorem d_M_differ_71 : decode b_M_differ 71 = .ok (.getfield 36, 3) := by decide +kernel
theorem d_M_differ_74 : decode b_M_differ 74 = .ok (.iload_n 2, 1) := by decide +kernel
theorem d_M_differ_75 : decode b_M_differ 75 = .ok (.iaload, 1) := by decide +kernel
theorem d_M_differ_76 : decode b_M_differ 76 = .ok (.if_icmp .eq 7, 3) := by decide +kernel
theorem d_M_differ_79 : decode b_M_differ 79 = .ok (.iconst 4, 1) := by decide +kernel
theorem d_M_differ_80 : decode b_M_differ 80 = .ok (.goto 4, 3) := by decide +kernel
theorem d_M_differ_83 : decode b_M_differ 83 = .ok (.iconst 0, 1) := by decide +kernel
theorem d_M_differ_84 : decode b_M_differ 84 = .ok (.iadd, 1) := by decide +kernel
theorem d_M_differ_85 : decode b_M_differ 85 = .ok (.istore_n 3, 1) := by decide +kernel
theorem d_M_differ_86 : decode b_M_differ 86 = .ok (.iload_n 3, 1) := by decide +kernel
theorem d_M_differ_87 : decode b_M_differ 87 = .ok (.aload_n 0, 1) := by decide +kernel
theorem d_M_differ_88 : decode b_M_differ 88 = .ok (.getfield 39, 3) := by decide +kernel
theorem d_M_differ_91 : decode b_M_differ 91 = .ok (.iload_n 1, 1) := by decide +kernel
theorem d_M_differ_92 : decode b_M_differ 92 = .ok (.iaload, 1) := by decide +kernel
theorem d_M_differ_93 : decode b_M_differ 93 = .ok (.aload_n 0, 1) := by decide +kernel
theorem d_M_differ_94 : decode b_M_differ 94 = .ok (.getfield 39, 3) := by decide +kernel
theorem d_M_differ_97 : decode b_M_differ 97 = .ok (.iload_n 2, 1) := by decide +kernel
theorem d_M_differ_98 : decode b_M_differ 98 = .ok (.iaload, 1) := by decide +kernel
theorem d_M_differ_99 : decode b_M_differ 99 = .ok (.if_icmp .eq 8, 3) := by decide +kernel
theorem d_M_differ_102 : decode b_M_differ 102 = .ok (.bipush 8, 2) := by decide +kernel
theorem d_M_differ_104 : decode b_M_differ 104 = .ok (.goto 4, 3) := by decide +kernel
theorem d_M_differ_107 : decode b_M_differ 107 = .ok (.iconst 0, 1) := by decide +kernel
theorem d_M_differ_108 : decode b_M_differ 108 = .ok (.iadd, 1) := by decide +kernel
theorem d_M_differ_109 : decode b_M_differ 109 = .ok (.istore_n 3, 1) := by decide +kernel
theorem d_M_differ_110 : decode b_M_differ 110 = .ok (.iload_n 3, 1) := by decide +kernel
theorem d_M_differ_111 : decode b_M_differ 111 = .ok (.aload_n 0, 1) := by decide +kernel
theorem d_M_differ_112 : decode b_M_differ 112 = .ok (.getfield 42, 3) := by decide +kernel
theorem d_M_differ_115 : decode b_M_differ 115 = .ok (.iload_n 1, 1) := by decide +kernel
theorem d_M_differ_116 : decode b_M_differ 116 = .ok (.iaload, 1) := by decide +kernel
theorem d_M_differ_117 : decode b_M_differ 117 = .ok (.aload_n 0, 1) := by decide +kernel
theorem d_M_differ_118 : decode b_M_differ 118 = .ok (.getfield 42, 3) := by decide +kernel
theorem d_M_differ_121 : decode b_M_differ 121 = .ok (.iload_n 2, 1) := by decide +kernel
theorem d_M_differ_122 : decode b_M_differ 122 = .ok (.iaload, 1) := by decide +kernel
theorem d_M_differ_123 : decode b_M_differ 123 = .ok (.if_icmp .eq 8, 3) := by decide +kernel
theorem d_M_differ_126 : decode b_M_differ 126 = .ok (.bipush 16, 2) := by decide +kernel
theorem d_M_differ_128 : decode b_M_differ 128 = .ok (.goto 4, 3) := by decide +kernel
theorem d_M_differ_131 : decode b_M_differ 131 = .ok (.iconst 0, 1) := by decide +kernel
theorem d_M_differ_132 : decode b_M_differ 132 = .ok (.iadd, 1) := by decide +kernel
theorem d_M_differ_133 : decode b_M_differ 133 = .ok (.istore_n 3, 1) := by decide +kernel
theorem d_M_differ_134 : decode b_M_differ 134 = .ok (.iload_n 3, 1) := by decide +kernel
theorem d_M_differ_135 : decode b_M_differ 135 = .ok (.aload_n 0, 1) := by decide +kernel
theorem d_M_differ_136 : decode b_M_differ 136 = .ok (.iload_n 1, 1) := by decide +kernel
theorem d_M_differ_137 : decode b_M_differ 137 = .ok (.iload_n 2, 1) := by decide +kernel
theorem d_M_differ_138 : decode b_M_differ 138 = .ok (.invokevirtual 148, 3) := by decide +kernel
theorem d_M_differ_141 : decode b_M_differ 141 = .ok (.ifCond .eq 7, 3) := by decide +kernel
theorem d_M_differ_144 : decode b_M_differ 144 = .ok (.iconst 0, 1) := by decide +kernel
theorem d_M_differ_145 : decode b_M_differ 145 = .ok (.goto 5, 3) := by decide +kernel
theorem d_M_differ_148 : decode b_M_differ 148 = .ok (.bipush 32, 2) := by decide +kernel
theorem d_M_differ_150 : decode b_M_differ 150 = .ok (.iadd, 1) := by decide +kernel
theorem d_M_differ_151 : decode b_M_differ 151 = .ok (.istore_n 3, 1) := by decide +kernel
theorem d_M_differ_152 : decode b_M_differ 152 = .ok (.iload_n 3, 1) := by decide +kernel
theorem d_M_differ_153 : decode b_M_differ 153 = .ok (.aload_n 0, 1) := by decide +kernel
theorem d_M_differ_154 : decode b_M_differ 154 = .ok (.iload_n 1, 1) := by decide +kernel
theorem d_M_differ_155 : decode b_M_differ 155 = .ok (.iload_n 2, 1) := by decide +kernel
theorem d_M_differ_156 : decode b_M_differ 156 = .ok (.invokevirtual 151, 3) := by decide +kernel
theorem d_M_differ_159 : decode b_M_differ 159 = .ok (.ifCond .eq 7, 3) := by decide +kernel
theorem d_M_differ_162 : decode b_M_differ 162 = .ok (.iconst 0, 1) := by decide +kernel
theorem d_M_differ_163 : decode b_M_differ 163 = .ok (.goto 5, 3) := by decide +kernel
theorem d_M_differ_166 : decode b_M_differ 166 = .ok (.bipush 64, 2) := by decide +kernel
theorem d_M_differ_168 : decode b_M_differ 168 = .ok (.iadd, 1) := by decide +kernel
theorem d_M_differ_169 : decode b_M_differ 169 = .ok (.ireturn, 1) := by decide +kernel
theorem d_M_clash_0 : decode b_M_clash 0 = .ok (.iload_n 1, 1) := by decide +kernel
theorem d_M_clash_1 : decode b_M_clash 1 = .ok (.ifCond .lt 12, 3) := by decide +kernel
theorem d_M_clash_4 : decode b_M_clash 4 = .ok (.iload_n 2, 1) := by decide +kernel
theorem d_M_clash_5 : decode b_M_clash 5 = .ok (.iconst 0, 1) := by decide +kernel
theorem d_M_clash_6 : decode b_M_clash 6 = .ok (.iconst 1, 1) := by decide +kernel
theorem d_M_clash_7 : decode b_M_clash 7 = .ok (.invokestatic 82, 3) := by decide +kernel
theorem d_M_clash_10 : decode b_M_clash 10 = .ok (.ifCond .ne 5, 3) := by decide +kernel
theorem d_M_clash_13 : decode b_M_clash 13 = .ok (.iconst (-1), 1) := by decide +kernel
theorem d_M_clash_14 : decode b_M_clash 14 = .ok (.ireturn, 1) := by decide +kernel
theorem d_M_clash_15 : decode b_M_clash 15 = .ok (.iload_n 1, 1) := by decide +kernel
theorem d_M_clash_16 : decode b_M_clash 16 = .ok (.istore_n 3, 1) := by decide +kernel
theorem d_M_clash_17 : decode b_M_clash 17 = .ok (.iconst 0, 1) := by decide +kernel
theorem d_M_clash_18 : decode b_M_clash 18 = .ok (.istore 4, 2) := by decide +kernel
theorem d_M_clash_20 : decode b_M_clash 20 = .ok (.iload 4, 2) := by decide +kernel
theorem d_M_clash_22 : decode b_M_clash 22 = .ok (.aload_n 0, 1) := by decide +kernel
theorem d_M_clash_23 : decode b_M_clash 23 = .ok (.getfield 76, 3) := by decide +kernel
theorem d_M_clash_26 : decode b_M_clash 26 = .ok (.if_icmp .ge 63, 3) := by decide +kernel
theorem d_M_clash_29 : decode b_M_clash 29 = .ok (.iload 4, 2) := by decide +kernel
theorem d_M_clash_31 : decode b_M_clash 31 = .ok (.iconst 1, 1) := by decide +kernel
theorem d_M_clash_32 : decode b_M_clash 32 = .ok (.iadd, 1) := by decide +kernel
theorem d_M_clash_33 : decode b_M_clash 33 = .ok (.istore 5, 2) := by decide +kernel
theorem d_M_clash_35 : decode b_M_clash 35 = .ok (.iload 5, 2) := by decide +kernel
theorem d_M_clash_37 : decode b_M_clash 37 = .ok (.aload_n 0, 1) := by decide +kernel
theorem d_M_clash_38 : decode b_M_clash 38 = .ok (.getfield 76, 3) := by decide +kernel
theorem d_M_clash_41 : decode b_M_clash 41 = .ok (.if_icmp .ge 42, 3) := by decide +kernel
theorem d_M_clash_44 : decode b_M_clash 44 = .ok (.aload_n 0, 1) := by decide +kernel
theorem d_M_clash_45 : decode b_M_clash 45 = .ok (.iload 4, 2) := by decide +kernel
theorem d_M_clash_47 : decode b_M_clash 47 = .ok (.iload 5, 2) := by decide +kernel
theorem d_M_clash_49 : decode b_M_clash 49 = .ok (.invokevirtual 139, 3) := by decide +kernel
theorem d_M_clash_52 : decode b_M_clash 52 = .ok (.ifCond .ne 6, 3) := by decide +kernel
theorem d_M_clash_55 : decode b_M_clash 55 = .ok (.goto 22, 3) := by decide +kernel
theorem d_M_clash_58 : decode b_M_clash 58 = .ok (.iload_n 3, 1) := by decide +kernel
theorem d_M_clash_59 : decode b_M_clash 59 = .ok (.ifCond .ne 15, 3) := by decide +kernel
theorem d_M_clash_62 : decode b_M_clash 62 = .ok (.iload_n 2, 1) := by decide +kernel
theorem d_M_clash_63 : decode b_M_clash 63 = .ok (.ifCond .ne 8, 3) := by decide +kernel
theorem d_M_clash_66 : decode b_M_clash 66 = .ok (.iload 4, 2) := by decide +kernel
theorem d_M_clash_68 : decode b_M_clash 68 = .ok (.goto 5, 3) := by decide +kernel
theorem d_M_clash_71 : decode b_M_clash 71 = .ok (.iload 5, 2) := by decide +kernel
theorem d_M_clash_73 : decode b_M_clash 73 = .ok (.ireturn, 1) := by decide +kernel
theorem d_M_clash_74 : decode b_M_clash 74 = .ok (.iinc 3 (-1), 3) := by decide +kernel
theorem d_M_clash_77 : decode b_M_clash 77 = .ok (.iinc 5 1, 3) := by decide +kernel
theorem d_M_clash_80 : decode b_M_clash 80 = .ok (.goto (-45), 3) := by decide +kernel
theorem d_M_clash_83 : decode b_M_clash 83 = .ok (.iinc 4 1, 3) := by decide +kernel
theorem d_M_clash_86 : decode b_M_clash 86 = .ok (.goto (-66), 3) := by decide +kernel
theorem d_M_clash_89 : decode b_M_clash 89 = .ok (.iconst (-1), 1) := by decide +kernel
theorem d_M_clash_90 : decode b_M_clash 90 = .ok (.ireturn, 1) := by decide +kernel
theorem d_M_init_0 : decode b_M_init 0 = .ok (.aload_n 0, 1) := by decide +kernel
theorem d_M_init_1 : decode b_M_init 1 = .ok (.invokespecial 1, 3) := by decide +kernel
theorem d_M_init_4 : decode b_M_init 4 = .ok (.aload_n 0, 1) := by decide +kernel
theorem d_M_init_5 : decode b_M_init 5 = .ok (.bipush 24, 2) := by decide +kernel
theorem d_M_init_7 : decode b_M_init 7 = .ok (.newarray .long, 2) := by decide +kernel
theorem d_M_init_9 : decode b_M_init 9 = .ok (.putfield 7, 3) := by decide +kernel
theorem d_M_init_12 : decode b_M_init 12 = .ok (.aload_n 0, 1) := by decide +kernel
theorem d_M_init_13 : decode b_M_init 13 = .ok (.bipush 24, 2) := by decide +kernel
theorem d_M_init_15 : decode b_M_init 15 = .ok (.newarray .int, 2) := by decide +kernel
theorem d_M_init_17 : decode b_M_init 17 = .ok (.putfield 13, 3) := by decide +kernel
theorem d_M_init_20 : decode b_M_init 20 = .ok (.aload_n 0, 1) := by decide +kernel
theorem d_M_init_21 : decode b_M_init 21 = .ok (.bipush 24, 2) := by decide +kernel
theorem d_M_init_23 : decode b_M_init 23 = .ok (.newarray .int, 2) := by decide +kernel
theorem d_M_init_25 : decode b_M_init 25 = .ok (.putfield 17, 3) := by decide +kernel
theorem d_M_init_28 : decode b_M_init 28 = .ok (.aload_n 0, 1) := by decide +kernel
theorem d_M_init_29 : decode b_M_init 29 = .ok (.bipush 24, 2) := by decide +kernel
theorem d_M_init_31 : decode b_M_init 31 = .ok (.newarray .boolean, 2) := by decide +kernel
theorem d_M_init_33 : decode b_M_init 33 = .ok (.putfield 20, 3) := by decide +kernel
theorem d_M_init_36 : decode b_M_init 36 = .ok (.aload_n 0, 1) := by decide +kernel
theorem d_M_init_37 : decode b_M_init 37 = .ok (.bipush 32, 2) := by decide +kernel
theorem d_M_init_39 : decode b_M_init 39 = .ok (.newarray .long, 2) := by decide +kernel
theorem d_M_init_41 : decode b_M_init 41 = .ok (.putfield 24, 3) := by decide +kernel
theorem d_M_init_44 : decode b_M_init 44 = .ok (.aload_n 0, 1) := by decide +kernel
theorem d_M_init_45 : decode b_M_init 45 = .ok (.sipush 192, 3) := by decide +kernel
theorem d_M_init_48 : decode b_M_init 48 = .ok (.newarray .long, 2) := by decide +kernel
theorem d_M_init_50 : decode b_M_init 50 = .ok (.putfield 27, 3) := by decide +kernel
theorem d_M_init_53 : decode b_M_init 53 = .ok (.aload_n 0, 1) := by decide +kernel
theorem d_M_init_54 : decode b_M_init 54 = .ok (.sipush 256, 3) := by decide +kernel
theorem d_M_init_57 : decode b_M_init 57 = .ok (.newarray .long, 2) := by decide +kernel
theorem d_M_init_59 : decode b_M_init 59 = .ok (.putfield 30, 3) := by decide +kernel
theorem d_M_init_62 : decode b_M_init 62 = .ok (.aload_n 0, 1) := by decide +kernel
theorem d_M_init_63 : decode b_M_init 63 = .ok (.bipush 32, 2) := by decide +kernel
theorem d_M_init_65 : decode b_M_init 65 = .ok (.newarray .int, 2) := by decide +kernel
theorem d_M_init_67 : decode b_M_init 67 = .ok (.putfield 33, 3) := by decide +kernel
theorem d_M_init_70 : decode b_M_init 70 = .ok (.aload_n 0, 1) := by decide +kernel
theorem d_M_init_71 : decode b_M_init 71 = .ok (.bipush 32, 2) := by decide +kernel
theorem d_M_init_73 : decode b_M_init 73 = .ok (.newarray .int, 2) := by decide +kernel
theorem d_M_init_75 : decode b_M_init 75 = .ok (.putfield 36, 3) := by decide +kernel
theorem d_M_init_78 : decode b_M_init 78 = .ok (.aload_n 0, 1) := by decide +kernel
theorem d_M_init_79 : decode b_M_init 79 = .ok (.bipush 32, 2) := by decide +kernel
theorem d_M_init_81 : decode b_M_init 81 = .ok (.newarray .int, 2) := by decide +kernel
theorem d_M_init_83 : decode b_M_init 83 = .ok (.putfield 39, 3) := by decide +kernel
theorem d_M_init_86 : decode b_M_init 86 = .ok (.aload_n 0, 1) := by decide +kernel
theorem d_M_init_87 : decode b_M_init 87 = .ok (.bipush 32, 2) := by decide +kernel
theorem d_M_init_89 : decode b_M_init 89 = .ok (.newarray .int, 2) := by decide +kernel
theorem d_M_init_91 : decode b_M_init 91 = .ok (.putfield 42, 3) := by decide +kernel
theorem d_M_init_94 : decode b_M_init 94 = .ok (.aload_n 0, 1) := by decide +kernel
theorem d_M_init_95 : decode b_M_init 95 = .ok (.bipush 32, 2) := by decide +kernel
theorem d_M_init_97 : decode b_M_init 97 = .ok (.newarray .int, 2) := by decide +kernel
theorem d_M_init_99 : decode b_M_init 99 = .ok (.putfield 45, 3) := by decide +kernel
theorem d_M_init_102 : decode b_M_init 102 = .ok (.aload_n 0, 1) := by decide +kernel
theorem d_M_init_103 : decode b_M_init 103 = .ok (.sipush 192, 3) := by decide +kernel
theorem d_M_init_106 : decode b_M_init 106 = .ok (.newarray .int, 2) := by decide +kernel
theorem d_M_init_108 : decode b_M_init 108 = .ok (.putfield 48, 3) := by decide +kernel
theorem d_M_init_111 : decode b_M_init 111 = .ok (.aload_n 0, 1) := by decide +kernel
theorem d_M_init_112 : decode b_M_init 112 = .ok (.bipush 32, 2) := by decide +kernel
theorem d_M_init_114 : decode b_M_init 114 = .ok (.newarray .int, 2) := by decide +kernel
theorem d_M_init_116 : decode b_M_init 116 = .ok (.putfield 51, 3) := by decide +kernel
theorem d_M_init_119 : decode b_M_init 119 = .ok (.aload_n 0, 1) := by decide +kernel
theorem d_M_init_120 : decode b_M_init 120 = .ok (.bipush 32, 2) := by decide +kernel
theorem d_M_init_122 : decode b_M_init 122 = .ok (.newarray .int, 2) := by decide +kernel
theorem d_M_init_124 : decode b_M_init 124 = .ok (.putfield 54, 3) := by decide +kernel
theorem d_M_init_127 : decode b_M_init 127 = .ok (.aload_n 0, 1) := by decide +kernel
theorem d_M_init_128 : decode b_M_init 128 = .ok (.bipush 16, 2) := by decide +kernel
theorem d_M_init_130 : decode b_M_init 130 = .ok (.newarray .int, 2) := by decide +kernel
theorem d_M_init_132 : decode b_M_init 132 = .ok (.putfield 57, 3) := by decide +kernel
theorem d_M_init_135 : decode b_M_init 135 = .ok (.aload_n 0, 1) := by decide +kernel
theorem d_M_init_136 : decode b_M_init 136 = .ok (.bipush 16, 2) := by decide +kernel
theorem d_M_init_138 : decode b_M_init 138 = .ok (.newarray .int, 2) := by decide +kernel
theorem d_M_init_140 : decode b_M_init 140 = .ok (.putfield 60, 3) := by decide +kernel
theorem d_M_init_143 : decode b_M_init 143 = .ok (.aload_n 0, 1) := by decide +kernel
theorem d_M_init_144 : decode b_M_init 144 = .ok (.iconst (-1), 1) := by decide +kernel
theorem d_M_init_145 : decode b_M_init 145 = .ok (.putfield 63, 3) := by decide +kernel
theorem d_M_init_148 : decode b_M_init 148 = .ok (.aload_n 0, 1) := by decide +kernel
theorem d_M_init_149 : decode b_M_init 149 = .ok (.bipush 32, 2) := by decide +kernel
theorem d_M_init_151 : decode b_M_init 151 = .ok (.newarray .int, 2) := by decide +kernel
theorem d_M_init_153 : decode b_M_init 153 = .ok (.putfield 67, 3) := by decide +kernel
theorem d_M_init_156 : decode b_M_init 156 = .ok (.aload_n 0, 1) := by decide +kernel
theorem d_M_init_157 : decode b_M_init 157 = .ok (.bipush 32, 2) := by decide +kernel
theorem d_M_init_159 : decode b_M_init 159 = .ok (.newarray .int, 2) := by decide +kernel
theorem d_M_init_161 : decode b_M_init 161 = .ok (.putfield 70, 3) := by decide +kernel
theorem d_M_init_164 : decode b_M_init 164 = .ok (.aload_n 0, 1) := by decide +kernel
theorem d_M_init_165 : decode b_M_init 165 = .ok (.bipush 32, 2) := by decide +kernel
theorem d_M_init_167 : decode b_M_init 167 = .ok (.newarray .int, 2) := by decide +kernel
theorem d_M_init_169 : decode b_M_init 169 = .ok (.putfield 73, 3) := by decide +kernel
theorem d_M_init_172 : decode b_M_init 172 = .ok (.return_, 1) := by decide +kernel
