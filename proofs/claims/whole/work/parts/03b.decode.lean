/-! decode rows, printed by the kit for this class -/
theorem dX9_statistic_29 : decode cX9_statistic 29 = .ok (.iload_n 1, 1) := by decide +kernel
theorem dX9_statistic_30 : decode cX9_statistic 30 = .ok (.invokevirtual 96, 3) := by decide +kernel
theorem dX9_statistic_33 : decode cX9_statistic 33 = .ok (.getfield 304, 3) := by decide +kernel
theorem dX9_statistic_36 : decode cX9_statistic 36 = .ok (.iload_n 2, 1) := by decide +kernel
theorem dX9_statistic_37 : decode cX9_statistic 37 = .ok (.invokestatic 69, 3) := by decide +kernel
theorem dX9_statistic_40 : decode cX9_statistic 40 = .ok (.ireturn, 1) := by decide +kernel
theorem dX9_activity_0 : decode cX9_activity 0 = .ok (.aload_n 0, 1) := by decide +kernel
theorem dX9_activity_1 : decode cX9_activity 1 = .ok (.iload_n 1, 1) := by decide +kernel
theorem dX9_activity_2 : decode cX9_activity 2 = .ok (.invokevirtual 93, 3) := by decide +kernel
theorem dX9_activity_5 : decode cX9_activity 5 = .ok (.aload_n 0, 1) := by decide +kernel
theorem dX9_activity_6 : decode cX9_activity 6 = .ok (.aload_n 0, 1) := by decide +kernel
theorem dX9_activity_7 : decode cX9_activity 7 = .ok (.getfield 12, 3) := by decide +kernel
theorem dX9_activity_10 : decode cX9_activity 10 = .ok (.iload_n 1, 1) := by decide +kernel
theorem dX9_activity_11 : decode cX9_activity 11 = .ok (.invokevirtual 96, 3) := by decide +kernel
theorem dX9_activity_14 : decode cX9_activity 14 = .ok (.invokevirtual 307, 3) := by decide +kernel
theorem dX9_activity_17 : decode cX9_activity 17 = .ok (.freturn, 1) := by decide +kernel
theorem dX9_activityBits_0 : decode cX9_activityBits 0 = .ok (.aload_n 0, 1) := by decide +kernel
theorem dX9_activityBits_1 : decode cX9_activityBits 1 = .ok (.iload_n 1, 1) := by decide +kernel
theorem dX9_activityBits_2 : decode cX9_activityBits 2 = .ok (.invokevirtual 93, 3) := by decide +kernel
theorem dX9_activityBits_5 : decode cX9_activityBits 5 = .ok (.aload_n 0, 1) := by decide +kernel
theorem dX9_activityBits_6 : decode cX9_activityBits 6 = .ok (.aload_n 0, 1) := by decide +kernel
theorem dX9_activityBits_7 : decode cX9_activityBits 7 = .ok (.getfield 12, 3) := by decide +kernel
theorem dX9_activityBits_10 : decode cX9_activityBits 10 = .ok (.iload_n 1, 1) := by decide +kernel
theorem dX9_activityBits_11 : decode cX9_activityBits 11 = .ok (.invokevirtual 96, 3) := by decide +kernel
theorem dX9_activityBits_14 : decode cX9_activityBits 14 = .ok (.invokevirtual 307, 3) := by decide +kernel
theorem dX9_activityBits_17 : decode cX9_activityBits 17 = .ok (.invokestatic 311, 3) := by decide +kernel
theorem dX9_activityBits_20 : decode cX9_activityBits 20 = .ok (.ireturn, 1) := by decide +kernel
theorem dX9_averageDelay_0 : decode cX9_averageDelay 0 = .ok (.iconst 0, 1) := by decide +kernel
theorem dX9_averageDelay_1 : decode cX9_averageDelay 1 = .ok (.istore_n 1, 1) := by decide +kernel
theorem dX9_averageDelay_2 : decode cX9_averageDelay 2 = .ok (.iconst 0, 1) := by decide +kernel
theorem dX9_averageDelay_3 : decode cX9_averageDelay 3 = .ok (.istore_n 2, 1) := by decide +kernel
theorem dX9_averageDelay_4 : decode cX9_averageDelay 4 = .ok (.iconst 0, 1) := by decide +kernel
theorem dX9_averageDelay_5 : decode cX9_averageDelay 5 = .ok (.istore_n 3, 1) := by decide +kernel
theorem dX9_averageDelay_6 : decode cX9_averageDelay 6 = .ok (.iload_n 3, 1) := by decide +kernel
theorem dX9_averageDelay_7 : decode cX9_averageDelay 7 = .ok (.aload_n 0, 1) := by decide +kernel
theorem dX9_averageDelay_8 : decode cX9_averageDelay 8 = .ok (.getfield 12, 3) := by decide +kernel
theorem dX9_averageDelay_11 : decode cX9_averageDelay 11 = .ok (.getfield 139, 3) := by decide +kernel
theorem dX9_averageDelay_14 : decode cX9_averageDelay 14 = .ok (.if_icmp .ge 53, 3) := by decide +kernel
theorem dX9_averageDelay_17 : decode cX9_averageDelay 17 = .ok (.aload_n 0, 1) := by decide +kernel
theorem dX9_averageDelay_18 : decode cX9_averageDelay 18 = .ok (.getfield 12, 3) := by decide +kernel
theorem dX9_averageDelay_21 : decode cX9_averageDelay 21 = .ok (.iload_n 3, 1) := by decide +kernel
theorem dX9_averageDelay_22 : decode cX9_averageDelay 22 = .ok (.invokevirtual 240, 3) := by decide +kernel
theorem dX9_averageDelay_25 : decode cX9_averageDelay 25 = .ok (.astore 4, 2) := by decide +kernel
theorem dX9_averageDelay_27 : decode cX9_averageDelay 27 = .ok (.aload 4, 2) := by decide +kernel
theorem dX9_averageDelay_29 : decode cX9_averageDelay 29 = .ok (.getfield 265, 3) := by decide +kernel
theorem dX9_averageDelay_32 : decode cX9_averageDelay 32 = .ok (.iconst 2, 1) := by decide +kernel
theorem dX9_averageDelay_33 : decode cX9_averageDelay 33 = .ok (.if_icmp .ne 28, 3) := by decide +kernel
theorem dX9_averageDelay_36 : decode cX9_averageDelay 36 = .ok (.iinc 1 1, 3) := by decide +kernel
theorem dX9_averageDelay_39 : decode cX9_averageDelay 39 = .ok (.iload_n 2, 1) := by decide +kernel
theorem dX9_averageDelay_40 : decode cX9_averageDelay 40 = .ok (.aload 4, 2) := by decide +kernel
theorem dX9_averageDelay_42 : decode cX9_averageDelay 42 = .ok (.getfield 274, 3) := by decide +kernel
theorem dX9_averageDelay_45 : decode cX9_averageDelay 45 = .ok (.aload 4, 2) := by decide +kernel
theorem dX9_averageDelay_47 : decode cX9_averageDelay 47 = .ok (.getfield 283, 3) := by decide +kernel
theorem dX9_averageDelay_50 : decode cX9_averageDelay 50 = .ok (.aload 4, 2) := by decide +kernel
theorem dX9_averageDelay_52 : decode cX9_averageDelay 52 = .ok (.getfield 315, 3) := by decide +kernel
theorem dX9_averageDelay_55 : decode cX9_averageDelay 55 = .ok (.invokestatic 115, 3) := by decide +kernel
theorem dX9_averageDelay_58 : decode cX9_averageDelay 58 = .ok (.isub, 1) := by decide +kernel
theorem dX9_averageDelay_59 : decode cX9_averageDelay 59 = .ok (.iadd, 1) := by decide +kernel
theorem dX9_averageDelay_60 : decode cX9_averageDelay 60 = .ok (.istore_n 2, 1) := by decide +kernel
theorem dX9_averageDelay_61 : decode cX9_averageDelay 61 = .ok (.iinc 3 1, 3) := by decide +kernel
theorem dX9_averageDelay_64 : decode cX9_averageDelay 64 = .ok (.goto (-58), 3) := by decide +kernel
theorem dX9_averageDelay_67 : decode cX9_averageDelay 67 = .ok (.iload_n 1, 1) := by decide +kernel
theorem dX9_averageDelay_68 : decode cX9_averageDelay 68 = .ok (.ifCond .ne 14, 3) := by decide +kernel
theorem dX9_averageDelay_71 : decode cX9_averageDelay 71 = .ok (.new 318, 3) := by decide +kernel
theorem dX9_averageDelay_74 : decode cX9_averageDelay 74 = .ok (.dup, 1) := by decide +kernel
theorem dX9_averageDelay_75 : decode cX9_averageDelay 75 = .ok (.ldc_w 320, 3) := by decide +kernel
theorem dX9_averageDelay_78 : decode cX9_averageDelay 78 = .ok (.invokespecial 322, 3) := by decide +kernel
theorem dX9_averageDelay_81 : decode cX9_averageDelay 81 = .ok (.athrow, 1) := by decide +kernel
theorem dX9_averageDelay_82 : decode cX9_averageDelay 82 = .ok (.iload_n 2, 1) := by decide +kernel
theorem dX9_averageDelay_83 : decode cX9_averageDelay 83 = .ok (.i2d, 1) := by decide +kernel
theorem dX9_averageDelay_84 : decode cX9_averageDelay 84 = .ok (.iload_n 1, 1) := by decide +kernel
theorem dX9_averageDelay_85 : decode cX9_averageDelay 85 = .ok (.i2d, 1) := by decide +kernel
theorem dX9_averageDelay_86 : decode cX9_averageDelay 86 = .ok (.ddiv, 1) := by decide +kernel
theorem dX9_averageDelay_87 : decode cX9_averageDelay 87 = .ok (.dreturn, 1) := by decide +kernel
theorem dX9_visits_0 : decode cX9_visits 0 = .ok (.iload_n 1, 1) := by decide +kernel
theorem dX9_visits_1 : decode cX9_visits 1 = .ok (.invokestatic 81, 3) := by decide +kernel
theorem dX9_visits_4 : decode cX9_visits 4 = .ok (.aload_n 0, 1) := by decide +kernel
theorem dX9_visits_5 : decode cX9_visits 5 = .ok (.getfield 12, 3) := by decide +kernel
theorem dX9_visits_8 : decode cX9_visits 8 = .ok (.getfield 323, 3) := by decide +kernel
theorem dX9_visits_11 : decode cX9_visits 11 = .ok (.iload_n 1, 1) := by decide +kernel
theorem dX9_visits_12 : decode cX9_visits 12 = .ok (.invokestatic 69, 3) := by decide +kernel
theorem dX9_visits_15 : decode cX9_visits 15 = .ok (.ireturn, 1) := by decide +kernel
theorem dX9_busiestCell_0 : decode cX9_busiestCell 0 = .ok (.iconst 0, 1) := by decide +kernel
theorem dX9_busiestCell_1 : decode cX9_busiestCell 1 = .ok (.istore_n 1, 1) := by decide +kernel
theorem dX9_busiestCell_2 : decode cX9_busiestCell 2 = .ok (.iconst 1, 1) := by decide +kernel
theorem dX9_busiestCell_3 : decode cX9_busiestCell 3 = .ok (.istore_n 2, 1) := by decide +kernel
theorem dX9_busiestCell_4 : decode cX9_busiestCell 4 = .ok (.iload_n 2, 1) := by decide +kernel
theorem dX9_busiestCell_5 : decode cX9_busiestCell 5 = .ok (.bipush 40, 2) := by decide +kernel
theorem dX9_busiestCell_7 : decode cX9_busiestCell 7 = .ok (.if_icmp .ge 36, 3) := by decide +kernel
theorem dX9_busiestCell_10 : decode cX9_busiestCell 10 = .ok (.aload_n 0, 1) := by decide +kernel
theorem dX9_busiestCell_11 : decode cX9_busiestCell 11 = .ok (.getfield 12, 3) := by decide +kernel
theorem dX9_busiestCell_14 : decode cX9_busiestCell 14 = .ok (.getfield 323, 3) := by decide +kernel
theorem dX9_busiestCell_17 : decode cX9_busiestCell 17 = .ok (.iload_n 2, 1) := by decide +kernel
theorem dX9_busiestCell_18 : decode cX9_busiestCell 18 = .ok (.invokestatic 69, 3) := by decide +kernel
theorem dX9_busiestCell_21 : decode cX9_busiestCell 21 = .ok (.aload_n 0, 1) := by decide +kernel
theorem dX9_busiestCell_22 : decode cX9_busiestCell 22 = .ok (.getfield 12, 3) := by decide +kernel
theorem dX9_busiestCell_25 : decode cX9_busiestCell 25 = .ok (.getfield 323, 3) := by decide +kernel
theorem dX9_busiestCell_28 : decode cX9_busiestCell 28 = .ok (.iload_n 1, 1) := by decide +kernel
theorem dX9_busiestCell_29 : decode cX9_busiestCell 29 = .ok (.invokestatic 69, 3) := by decide +kernel
theorem dX9_busiestCell_32 : decode cX9_busiestCell 32 = .ok (.if_icmp .le 5, 3) := by decide +kernel
theorem dX9_busiestCell_35 : decode cX9_busiestCell 35 = .ok (.iload_n 2, 1) := by decide +kernel
theorem dX9_busiestCell_36 : decode cX9_busiestCell 36 = .ok (.istore_n 1, 1) := by decide +kernel
theorem dX9_busiestCell_37 : decode cX9_busiestCell 37 = .ok (.iinc 2 1, 3) := by decide +kernel
theorem dX9_busiestCell_40 : decode cX9_busiestCell 40 = .ok (.goto (-36), 3) := by decide +kernel
theorem dX9_busiestCell_43 : decode cX9_busiestCell 43 = .ok (.iload_n 1, 1) := by decide +kernel
theorem dX9_busiestCell_44 : decode cX9_busiestCell 44 = .ok (.ireturn, 1) := by decide +kernel
theorem dX9_sample_0 : decode cX9_sample 0 = .ok (.iload_n 1, 1) := by decide +kernel
theorem dX9_sample_1 : decode cX9_sample 1 = .ok (.iload_n 2, 1) := by decide +kernel
theorem dX9_sample_2 : decode cX9_sample 2 = .ok (.invokestatic 326, 3) := by decide +kernel
theorem dX9_sample_5 : decode cX9_sample 5 = .ok (.aload_n 0, 1) := by decide +kernel
theorem dX9_sample_6 : decode cX9_sample 6 = .ok (.iload_n 3, 1) := by decide +kernel
theorem dX9_sample_7 : decode cX9_sample 7 = .ok (.invokevirtual 93, 3) := by decide +kernel
theorem dX9_sample_10 : decode cX9_sample 10 = .ok (.iload_n 1, 1) := by decide +kernel
theorem dX9_sample_11 : decode cX9_sample 11 = .ok (.ifCond .ne 25, 3) := by decide +kernel
theorem dX9_sample_14 : decode cX9_sample 14 = .ok (.aload_n 0, 1) := by decide +kernel
theorem dX9_sample_15 : decode cX9_sample 15 = .ok (.getfield 12, 3) := by decide +kernel
theorem dX9_sample_18 : decode cX9_sample 18 = .ok (.iload_n 3, 1) := by decide +kernel
theorem dX9_sample_19 : decode cX9_sample 19 = .ok (.invokevirtual 329, 3) := by decide +kernel
theorem dX9_sample_22 : decode cX9_sample 22 = .ok (.ifCond .ne 14, 3) := by decide +kernel
theorem dX9_sample_25 : decode cX9_sample 25 = .ok (.new 165, 3) := by decide +kernel
theorem dX9_sample_28 : decode cX9_sample 28 = .ok (.dup, 1) := by decide +kernel
theorem dX9_sample_29 : decode cX9_sample 29 = .ok (.ldc_w 332, 3) := by decide +kernel
theorem dX9_sample_32 : decode cX9_sample 32 = .ok (.invokespecial 169, 3) := by decide +kernel
theorem dX9_sample_35 : decode cX9_sample 35 = .ok (.athrow, 1) := by decide +kernel
theorem dX9_sample_36 : decode cX9_sample 36 = .ok (.aload_n 0, 1) := by decide +kernel
theorem dX9_sample_37 : decode cX9_sample 37 = .ok (.getfield 12, 3) := by decide +kernel
theorem dX9_sample_40 : decode cX9_sample 40 = .ok (.iload_n 3, 1) := by decide +kernel
theorem dX9_sample_41 : decode cX9_sample 41 = .ok (.invokevirtual 96, 3) := by decide +kernel
theorem dX9_sample_44 : decode cX9_sample 44 = .ok (.astore 4, 2) := by decide +kernel
theorem dX9_sample_46 : decode cX9_sample 46 = .ok (.aload 4, 2) := by decide +kernel
theorem dX9_sample_48 : decode cX9_sample 48 = .ok (.getfield 100, 3) := by decide +kernel
theorem dX9_sample_51 : decode cX9_sample 51 = .ok (.aload_n 0, 1) := by decide +kernel
theorem dX9_sample_52 : decode cX9_sample 52 = .ok (.getfield 12, 3) := by decide +kernel
theorem dX9_sample_55 : decode cX9_sample 55 = .ok (.getfield 106, 3) := by decide +kernel
theorem dX9_sample_58 : decode cX9_sample 58 = .ok (.invokevirtual 109, 3) := by decide +kernel
theorem dX9_sample_61 : decode cX9_sample 61 = .ok (.iconst (-1), 1) := by decide +kernel
theorem dX9_sample_62 : decode cX9_sample 62 = .ok (.invokestatic 115, 3) := by decide +kernel
theorem dX9_sample_65 : decode cX9_sample 65 = .ok (.istore 5, 2) := by decide +kernel
theorem dX9_sample_67 : decode cX9_sample 67 = .ok (.aload_n 0, 1) := by decide +kernel
theorem dX9_sample_68 : decode cX9_sample 68 = .ok (.getfield 34, 3) := by decide +kernel
theorem dX9_sample_71 : decode cX9_sample 71 = .ok (.iload_n 1, 1) := by decide +kernel
theorem dX9_sample_72 : decode cX9_sample 72 = .ok (.iconst 3, 1) := by decide +kernel
theorem dX9_sample_73 : decode cX9_sample 73 = .ok (.imul, 1) := by decide +kernel
theorem dX9_sample_74 : decode cX9_sample 74 = .ok (.iload_n 2, 1) := by decide +kernel
theorem dX9_sample_75 : decode cX9_sample 75 = .ok (.iadd, 1) := by decide +kernel
theorem dX9_sample_76 : decode cX9_sample 76 = .ok (.iload_n 3, 1) := by decide +kernel
theorem dX9_sample_77 : decode cX9_sample 77 = .ok (.iload 5, 2) := by decide +kernel
theorem dX9_sample_79 : decode cX9_sample 79 = .ok (.aload 4, 2) := by decide +kernel
theorem dX9_sample_81 : decode cX9_sample 81 = .ok (.getfield 120, 3) := by decide +kernel
theorem dX9_sample_84 : decode cX9_sample 84 = .ok (.aload_n 0, 1) := by decide +kernel
theorem dX9_sample_85 : decode cX9_sample 85 = .ok (.getfield 12, 3) := by decide +kernel
theorem dX9_sample_88 : decode cX9_sample 88 = .ok (.getfield 106, 3) := by decide +kernel
theorem dX9_sample_91 : decode cX9_sample 91 = .ok (.invokevirtual 334, 3) := by decide +kernel
theorem dX9_sample_94 : decode cX9_sample 94 = .ok (.aload_n 0, 1) := by decide +kernel
theorem dX9_sample_95 : decode cX9_sample 95 = .ok (.getfield 34, 3) := by decide +kernel
theorem dX9_sample_98 : decode cX9_sample 98 = .ok (.iload_n 1, 1) := by decide +kernel
theorem dX9_sample_99 : decode cX9_sample 99 = .ok (.invokevirtual 337, 3) := by decide +kernel
theorem dX9_sample_102 : decode cX9_sample 102 = .ok (.ireturn, 1) := by decide +kernel
theorem dX9_sampled_0 : decode cX9_sampled 0 = .ok (.iload_n 1, 1) := by decide +kernel
theorem dX9_sampled_1 : decode cX9_sampled 1 = .ok (.iload_n 2, 1) := by decide +kernel
theorem dX9_sampled_2 : decode cX9_sampled 2 = .ok (.invokestatic 326, 3) := by decide +kernel
theorem dX9_sampled_5 : decode cX9_sampled 5 = .ok (.iload_n 3, 1) := by decide +kernel
theorem dX9_sampled_6 : decode cX9_sampled 6 = .ok (.ifCond .lt 8, 3) := by decide +kernel
theorem dX9_sampled_9 : decode cX9_sampled 9 = .ok (.iload_n 3, 1) := by decide +kernel
theorem dX9_sampled_10 : decode cX9_sampled 10 = .ok (.iconst 4, 1) := by decide +kernel
theorem dX9_sampled_11 : decode cX9_sampled 11 = .ok (.if_icmp .lt 14, 3) := by decide +kernel
theorem dX9_sampled_14 : decode cX9_sampled 14 = .ok (.new 132, 3) := by decide +kernel
theorem dX9_sampled_17 : decode cX9_sampled 17 = .ok (.dup, 1) := by decide +kernel
theorem dX9_sampled_18 : decode cX9_sampled 18 = .ok (.ldc_w 340, 3) := by decide +kernel
theorem dX9_sampled_21 : decode cX9_sampled 21 = .ok (.invokespecial 136, 3) := by decide +kernel
theorem dX9_sampled_24 : decode cX9_sampled 24 = .ok (.athrow, 1) := by decide +kernel
theorem dX9_sampled_25 : decode cX9_sampled 25 = .ok (.iload_n 1, 1) := by decide +kernel
theorem dX9_sampled_26 : decode cX9_sampled 26 = .ok (.iconst 3, 1) := by decide +kernel
theorem dX9_sampled_27 : decode cX9_sampled 27 = .ok (.imul, 1) := by decide +kernel
theorem dX9_sampled_28 : decode cX9_sampled 28 = .ok (.iload_n 2, 1) := by decide +kernel
theorem dX9_sampled_29 : decode cX9_sampled 29 = .ok (.iadd, 1) := by decide +kernel
theorem dX9_sampled_30 : decode cX9_sampled 30 = .ok (.istore 4, 2) := by decide +kernel
theorem dX9_sampled_32 : decode cX9_sampled 32 = .ok (.aload_n 0, 1) := by decide +kernel
theorem dX9_sampled_33 : decode cX9_sampled 33 = .ok (.getfield 34, 3) := by decide +kernel
theorem dX9_sampled_36 : decode cX9_sampled 36 = .ok (.getfield 342, 3) := by decide +kernel
theorem dX9_sampled_39 : decode cX9_sampled 39 = .ok (.iload 4, 2) := by decide +kernel
theorem dX9_sampled_41 : decode cX9_sampled 41 = .ok (.invokestatic 69, 3) := by decide +kernel
theorem dX9_sampled_44 : decode cX9_sampled 44 = .ok (.ifCond .ne 14, 3) := by decide +kernel
theorem dX9_sampled_47 : decode cX9_sampled 47 = .ok (.new 152, 3) := by decide +kernel
theorem dX9_sampled_50 : decode cX9_sampled 50 = .ok (.dup, 1) := by decide +kernel
theorem dX9_sampled_51 : decode cX9_sampled 51 = .ok (.ldc_w 345, 3) := by decide +kernel
theorem dX9_sampled_54 : decode cX9_sampled 54 = .ok (.invokespecial 156, 3) := by decide +kernel
theorem dX9_sampled_57 : decode cX9_sampled 57 = .ok (.athrow, 1) := by decide +kernel
theorem dX9_sampled_58 : decode cX9_sampled 58 = .ok (.aload_n 0, 1) := by decide +kernel
theorem dX9_sampled_59 : decode cX9_sampled 59 = .ok (.getfield 34, 3) := by decide +kernel
theorem dX9_sampled_62 : decode cX9_sampled 62 = .ok (.getfield 347, 3) := by decide +kernel
theorem dX9_sampled_65 : decode cX9_sampled 65 = .ok (.iload 4, 2) := by decide +kernel
theorem dX9_sampled_67 : decode cX9_sampled 67 = .ok (.iconst 4, 1) := by decide +kernel
theorem dX9_sampled_68 : decode cX9_sampled 68 = .ok (.imul, 1) := by decide +kernel
theorem dX9_sampled_69 : decode cX9_sampled 69 = .ok (.iload_n 3, 1) := by decide +kernel
theorem dX9_sampled_70 : decode cX9_sampled 70 = .ok (.iadd, 1) := by decide +kernel
theorem dX9_sampled_71 : decode cX9_sampled 71 = .ok (.invokestatic 69, 3) := by decide +kernel
theorem dX9_sampled_74 : decode cX9_sampled 74 = .ok (.ireturn, 1) := by decide +kernel
theorem dX9_append_0 : decode cX9_append 0 = .ok (.iload_n 1, 1) := by decide +kernel
theorem dX9_append_1 : decode cX9_append 1 = .ok (.bipush 32, 2) := by decide +kernel
theorem dX9_append_3 : decode cX9_append 3 = .ok (.if_icmp .lt 9, 3) := by decide +kernel
theorem dX9_append_6 : decode cX9_append 6 = .ok (.iload_n 1, 1) := by decide +kernel
theorem dX9_append_7 : decode cX9_append 7 = .ok (.bipush 126, 2) := by decide +kernel
theorem dX9_append_9 : decode cX9_append 9 = .ok (.if_icmp .le 14, 3) := by decide +kernel
theorem dX9_append_12 : decode cX9_append 12 = .ok (.new 132, 3) := by decide +kernel
theorem dX9_append_15 : decode cX9_append 15 = .ok (.dup, 1) := by decide +kernel
theorem dX9_append_16 : decode cX9_append 16 = .ok (.ldc_w 350, 3) := by decide +kernel
theorem dX9_append_19 : decode cX9_append 19 = .ok (.invokespecial 136, 3) := by decide +kernel
theorem dX9_append_22 : decode cX9_append 22 = .ok (.athrow, 1) := by decide +kernel
theorem dX9_append_23 : decode cX9_append 23 = .ok (.aload_n 0, 1) := by decide +kernel
theorem dX9_append_24 : decode cX9_append 24 = .ok (.getfield 41, 3) := by decide +kernel
theorem dX9_append_27 : decode cX9_append 27 = .ok (.getfield 352, 3) := by decide +kernel
theorem dX9_append_30 : decode cX9_append 30 = .ok (.bipush 40, 2) := by decide +kernel
theorem dX9_append_32 : decode cX9_append 32 = .ok (.if_icmp .lt 14, 3) := by decide +kernel
theorem dX9_append_35 : decode cX9_append 35 = .ok (.new 218, 3) := by decide +kernel
theorem dX9_append_38 : decode cX9_append 38 = .ok (.dup, 1) := by decide +kernel
theorem dX9_append_39 : decode cX9_append 39 = .ok (.ldc_w 355, 3) := by decide +kernel
theorem dX9_append_42 : decode cX9_append 42 = .ok (.invokespecial 222, 3) := by decide +kernel
theorem dX9_append_45 : decode cX9_append 45 = .ok (.athrow, 1) := by decide +kernel
theorem dX9_append_46 : decode cX9_append 46 = .ok (.aload_n 0, 1) := by decide +kernel
theorem dX9_append_47 : decode cX9_append 47 = .ok (.getfield 41, 3) := by decide +kernel
theorem dX9_append_50 : decode cX9_append 50 = .ok (.iload_n 1, 1) := by decide +kernel
theorem dX9_append_51 : decode cX9_append 51 = .ok (.invokevirtual 357, 3) := by decide +kernel
theorem dX9_append_54 : decode cX9_append 54 = .ok (.aload_n 0, 1) := by decide +kernel
theorem dX9_append_55 : decode cX9_append 55 = .ok (.getfield 41, 3) := by decide +kernel
theorem dX9_append_58 : decode cX9_append 58 = .ok (.getfield 352, 3) := by decide +kernel
theorem dX9_append_61 : decode cX9_append 61 = .ok (.ireturn, 1) := by decide +kernel
theorem dX9_read_0 : decode cX9_read 0 = .ok (.aload_n 0, 1) := by decide +kernel
theorem dX9_read_1 : decode cX9_read 1 = .ok (.getfield 41, 3) := by decide +kernel
theorem dX9_read_4 : decode cX9_read 4 = .ok (.invokevirtual 361, 3) := by decide +kernel
theorem dX9_read_7 : decode cX9_read 7 = .ok (.istore_n 1, 1) := by decide +kernel
theorem dX9_read_8 : decode cX9_read 8 = .ok (.aload_n 0, 1) := by decide +kernel
theorem dX9_read_9 : decode cX9_read 9 = .ok (.getfield 41, 3) := by decide +kernel
theorem dX9_read_12 : decode cX9_read 12 = .ok (.iconst 0, 1) := by decide +kernel
theorem dX9_read_13 : decode cX9_read 13 = .ok (.putfield 352, 3) := by decide +kernel
theorem dX9_read_16 : decode cX9_read 16 = .ok (.iload_n 1, 1) := by decide +kernel
theorem dX9_read_17 : decode cX9_read 17 = .ok (.ifCond .lt 19, 3) := by decide +kernel
theorem dX9_read_20 : decode cX9_read 20 = .ok (.aload_n 0, 1) := by decide +kernel
theorem dX9_read_21 : decode cX9_read 21 = .ok (.iload_n 1, 1) := by decide +kernel
theorem dX9_read_22 : decode cX9_read 22 = .ok (.putfield 49, 3) := by decide +kernel
theorem dX9_read_25 : decode cX9_read 25 = .ok (.new 132, 3) := by decide +kernel
theorem dX9_read_28 : decode cX9_read 28 = .ok (.dup, 1) := by decide +kernel
theorem dX9_read_29 : decode cX9_read 29 = .ok (.ldc_w 364, 3) := by decide +kernel
theorem dX9_read_32 : decode cX9_read 32 = .ok (.invokespecial 136, 3) := by decide +kernel
theorem dX9_read_35 : decode cX9_read 35 = .ok (.athrow, 1) := by decide +kernel
theorem dX9_read_36 : decode cX9_read 36 = .ok (.aload_n 0, 1) := by decide +kernel
theorem dX9_read_37 : decode cX9_read 37 = .ok (.invokevirtual 366, 3) := by decide +kernel
theorem dX9_read_40 : decode cX9_read 40 = .ok (.ifCond .ne 14, 3) := by decide +kernel
theorem dX9_read_43 : decode cX9_read 43 = .ok (.new 218, 3) := by decide +kernel
theorem dX9_read_46 : decode cX9_read 46 = .ok (.dup, 1) := by decide +kernel
theorem dX9_read_47 : decode cX9_read 47 = .ok (.ldc_w 370, 3) := by decide +kernel
theorem dX9_read_50 : decode cX9_read 50 = .ok (.invokespecial 222, 3) := by decide +kernel
theorem dX9_read_53 : decode cX9_read 53 = .ok (.athrow, 1) := by decide +kernel
theorem dX9_read_54 : decode cX9_read 54 = .ok (.aload_n 0, 1) := by decide +kernel
theorem dX9_read_55 : decode cX9_read 55 = .ok (.getfield 41, 3) := by decide +kernel
theorem dX9_read_58 : decode cX9_read 58 = .ok (.getfield 372, 3) := by decide +kernel
theorem dX9_read_61 : decode cX9_read 61 = .ok (.ireturn, 1) := by decide +kernel
theorem dX9_errorPosition_0 : decode cX9_errorPosition 0 = .ok (.aload_n 0, 1) := by decide +kernel
theorem dX9_errorPosition_1 : decode cX9_errorPosition 1 = .ok (.getfield 49, 3) := by decide +kernel
theorem dX9_errorPosition_4 : decode cX9_errorPosition 4 = .ok (.ifCond .ge 14, 3) := by decide +kernel
theorem dX9_errorPosition_7 : decode cX9_errorPosition 7 = .ok (.new 152, 3) := by decide +kernel
theorem dX9_errorPosition_10 : decode cX9_errorPosition 10 = .ok (.dup, 1) := by decide +kernel
theorem dX9_errorPosition_11 : decode cX9_errorPosition 11 = .ok (.ldc_w 375, 3) := by decide +kernel
theorem dX9_errorPosition_14 : decode cX9_errorPosition 14 = .ok (.invokespecial 156, 3) := by decide +kernel
theorem dX9_errorPosition_17 : decode cX9_errorPosition 17 = .ok (.athrow, 1) := by decide +kernel
theorem dX9_errorPosition_18 : decode cX9_errorPosition 18 = .ok (.aload_n 0, 1) := by decide +kernel
theorem dX9_errorPosition_19 : decode cX9_errorPosition 19 = .ok (.getfield 49, 3) := by decide +kernel
theorem dX9_errorPosition_22 : decode cX9_errorPosition 22 = .ok (.ireturn, 1) := by decide +kernel
theorem dX9_save_0 : decode cX9_save 0 = .ok (.aload_n 0, 1) := by decide +kernel
theorem dX9_save_1 : decode cX9_save 1 = .ok (.getfield 16, 3) := by decide +kernel
theorem dX9_save_4 : decode cX9_save 4 = .ok (.aload_n 0, 1) := by decide +kernel
theorem dX9_save_5 : decode cX9_save 5 = .ok (.getfield 12, 3) := by decide +kernel
theorem dX9_save_8 : decode cX9_save 8 = .ok (.invokevirtual 377, 3) := by decide +kernel
theorem dX9_save_11 : decode cX9_save 11 = .ok (.aload_n 0, 1) := by decide +kernel
theorem dX9_save_12 : decode cX9_save 12 = .ok (.iconst 1, 1) := by decide +kernel
theorem dX9_save_13 : decode cX9_save 13 = .ok (.putfield 45, 3) := by decide +kernel
theorem dX9_save_16 : decode cX9_save 16 = .ok (.aload_n 0, 1) := by decide +kernel
theorem dX9_save_17 : decode cX9_save 17 = .ok (.getfield 12, 3) := by decide +kernel
theorem dX9_save_20 : decode cX9_save 20 = .ok (.getfield 106, 3) := by decide +kernel
theorem dX9_save_23 : decode cX9_save 23 = .ok (.ireturn, 1) := by decide +kernel
theorem dX9_restore_0 : decode cX9_restore 0 = .ok (.aload_n 0, 1) := by decide +kernel
theorem dX9_restore_1 : decode cX9_restore 1 = .ok (.getfield 45, 3) := by decide +kernel
theorem dX9_restore_4 : decode cX9_restore 4 = .ok (.ifCond .ne 14, 3) := by decide +kernel
theorem dX9_restore_7 : decode cX9_restore 7 = .ok (.new 218, 3) := by decide +kernel
theorem dX9_restore_10 : decode cX9_restore 10 = .ok (.dup, 1) := by decide +kernel
theorem dX9_restore_11 : decode cX9_restore 11 = .ok (.ldc_w 380, 3) := by decide +kernel
theorem dX9_restore_14 : decode cX9_restore 14 = .ok (.invokespecial 222, 3) := by decide +kernel
theorem dX9_restore_17 : decode cX9_restore 17 = .ok (.athrow, 1) := by decide +kernel
theorem dX9_restore_18 : decode cX9_restore 18 = .ok (.aload_n 0, 1) := by decide +kernel
theorem dX9_restore_19 : decode cX9_restore 19 = .ok (.getfield 12, 3) := by decide +kernel
theorem dX9_restore_22 : decode cX9_restore 22 = .ok (.aload_n 0, 1) := by decide +kernel
theorem dX9_restore_23 : decode cX9_restore 23 = .ok (.getfield 16, 3) := by decide +kernel
theorem dX9_restore_26 : decode cX9_restore 26 = .ok (.invokevirtual 377, 3) := by decide +kernel
theorem dX9_restore_29 : decode cX9_restore 29 = .ok (.aload_n 0, 1) := by decide +kernel
theorem dX9_restore_30 : decode cX9_restore 30 = .ok (.getfield 12, 3) := by decide +kernel
theorem dX9_restore_33 : decode cX9_restore 33 = .ok (.getfield 106, 3) := by decide +kernel
theorem dX9_restore_36 : decode cX9_restore 36 = .ok (.ireturn, 1) := by decide +kernel
theorem dX9_doEntries_0 : decode cX9_doEntries 0 = .ok (.aload_n 0, 1) := by decide +kernel
theorem dX9_doEntries_1 : decode cX9_doEntries 1 = .ok (.getfield 19, 3) := by decide +kernel
theorem dX9_doEntries_4 : decode cX9_doEntries 4 = .ok (.aload_n 0, 1) := by decide +kernel
theorem dX9_doEntries_5 : decode cX9_doEntries 5 = .ok (.getfield 12, 3) := by decide +kernel
theorem dX9_doEntries_8 : decode cX9_doEntries 8 = .ok (.invokevirtual 377, 3) := by decide +kernel
theorem dX9_doEntries_11 : decode cX9_doEntries 11 = .ok (.iconst 0, 1) := by decide +kernel
theorem dX9_doEntries_12 : decode cX9_doEntries 12 = .ok (.istore_n 1, 1) := by decide +kernel
theorem dX9_doEntries_13 : decode cX9_doEntries 13 = .ok (.iload_n 1, 1) := by decide +kernel
theorem dX9_doEntries_14 : decode cX9_doEntries 14 = .ok (.aload_n 0, 1) := by decide +kernel
theorem dX9_doEntries_15 : decode cX9_doEntries 15 = .ok (.getfield 41, 3) := by decide +kernel
theorem dX9_doEntries_18 : decode cX9_doEntries 18 = .ok (.getfield 372, 3) := by decide +kernel
theorem dX9_doEntries_21 : decode cX9_doEntries 21 = .ok (.if_icmp .ge 67, 3) := by decide +kernel
theorem dX9_doEntries_24 : decode cX9_doEntries 24 = .ok (.aload_n 0, 1) := by decide +kernel
theorem dX9_doEntries_25 : decode cX9_doEntries 25 = .ok (.getfield 41, 3) := by decide +kernel
theorem dX9_doEntries_28 : decode cX9_doEntries 28 = .ok (.getfield 382, 3) := by decide +kernel
theorem dX9_doEntries_31 : decode cX9_doEntries 31 = .ok (.iload_n 1, 1) := by decide +kernel
theorem dX9_doEntries_32 : decode cX9_doEntries 32 = .ok (.invokestatic 69, 3) := by decide +kernel
theorem dX9_doEntries_35 : decode cX9_doEntries 35 = .ok (.istore_n 2, 1) := by decide +kernel
theorem dX9_doEntries_36 : decode cX9_doEntries 36 = .ok (.aload_n 0, 1) := by decide +kernel
theorem dX9_doEntries_37 : decode cX9_doEntries 37 = .ok (.getfield 12, 3) := by decide +kernel
theorem dX9_doEntries_40 : decode cX9_doEntries 40 = .ok (.aload_n 0, 1) := by decide +kernel
theorem dX9_doEntries_41 : decode cX9_doEntries 41 = .ok (.getfield 41, 3) := by decide +kernel
theorem dX9_doEntries_44 : decode cX9_doEntries 44 = .ok (.getfield 385, 3) := by decide +kernel
theorem dX9_doEntries_47 : decode cX9_doEntries 47 = .ok (.iload_n 1, 1) := by decide +kernel
theorem dX9_doEntries_48 : decode cX9_doEntries 48 = .ok (.invokestatic 69, 3) := by decide +kernel
theorem dX9_doEntries_51 : decode cX9_doEntries 51 = .ok (.iload_n 2, 1) := by decide +kernel
theorem dX9_doEntries_52 : decode cX9_doEntries 52 = .ok (.aload_n 0, 1) := by decide +kernel
theorem dX9_doEntries_53 : decode cX9_doEntries 53 = .ok (.getfield 41, 3) := by decide +kernel
theorem dX9_doEntries_56 : decode cX9_doEntries 56 = .ok (.getfield 388, 3) := by decide +kernel
theorem dX9_doEntries_59 : decode cX9_doEntries 59 = .ok (.iload_n 1, 1) := by decide +kernel
theorem dX9_doEntries_60 : decode cX9_doEntries 60 = .ok (.invokestatic 69, 3) := by decide +kernel
theorem dX9_doEntries_63 : decode cX9_doEntries 63 = .ok (.invokevirtual 391, 3) := by decide +kernel
theorem dX9_doEntries_66 : decode cX9_doEntries 66 = .ok (.ifCond .eq 16, 3) := by decide +kernel
theorem dX9_doEntries_69 : decode cX9_doEntries 69 = .ok (.aload_n 0, 1) := by decide +kernel
theorem dX9_doEntries_70 : decode cX9_doEntries 70 = .ok (.getfield 12, 3) := by decide +kernel
theorem dX9_doEntries_73 : decode cX9_doEntries 73 = .ok (.aload_n 0, 1) := by decide +kernel
theorem dX9_doEntries_74 : decode cX9_doEntries 74 = .ok (.getfield 19, 3) := by decide +kernel
theorem dX9_doEntries_77 : decode cX9_doEntries 77 = .ok (.invokevirtual 377, 3) := by decide +kernel
theorem dX9_doEntries_80 : decode cX9_doEntries 80 = .ok (.iconst 0, 1) := by decide +kernel
theorem dX9_doEntries_81 : decode cX9_doEntries 81 = .ok (.ireturn, 1) := by decide +kernel
theorem dX9_doEntries_82 : decode cX9_doEntries 82 = .ok (.iinc 1 1, 3) := by decide +kernel
theorem dX9_doEntries_85 : decode cX9_doEntries 85 = .ok (.goto (-72), 3) := by decide +kernel
theorem dX9_doEntries_88 : decode cX9_doEntries 88 = .ok (.iconst 1, 1) := by decide +kernel
theorem dX9_doEntries_89 : decode cX9_doEntries 89 = .ok (.ireturn, 1) := by decide +kernel
theorem dX9_raise_0 : decode cX9_raise 0 = .ok (.iload_n 0, 1) := by decide +kernel
theorem dX9_raise_1 : decode cX9_raise 1 = .ok (.iconst 1, 1) := by decide +kernel
theorem dX9_raise_2 : decode cX9_raise 2 = .ok (.if_icmp .ne 14, 3) := by decide +kernel
theorem dX9_raise_5 : decode cX9_raise 5 = .ok (.new 395, 3) := by decide +kernel
theorem dX9_raise_8 : decode cX9_raise 8 = .ok (.dup, 1) := by decide +kernel
theorem dX9_raise_9 : decode cX9_raise 9 = .ok (.ldc_w 397, 3) := by decide +kernel
theorem dX9_raise_12 : decode cX9_raise 12 = .ok (.invokespecial 399, 3) := by decide +kernel
theorem dX9_raise_15 : decode cX9_raise 15 = .ok (.athrow, 1) := by decide +kernel
theorem dX9_raise_16 : decode cX9_raise 16 = .ok (.iload_n 0, 1) := by decide +kernel
theorem dX9_raise_17 : decode cX9_raise 17 = .ok (.iconst 2, 1) := by decide +kernel
theorem dX9_raise_18 : decode cX9_raise 18 = .ok (.if_icmp .ne 14, 3) := by decide +kernel
theorem dX9_raise_21 : decode cX9_raise 21 = .ok (.new 132, 3) := by decide +kernel
theorem dX9_raise_24 : decode cX9_raise 24 = .ok (.dup, 1) := by decide +kernel
theorem dX9_raise_25 : decode cX9_raise 25 = .ok (.ldc_w 400, 3) := by decide +kernel
theorem dX9_raise_28 : decode cX9_raise 28 = .ok (.invokespecial 136, 3) := by decide +kernel
theorem dX9_raise_31 : decode cX9_raise 31 = .ok (.athrow, 1) := by decide +kernel
theorem dX9_raise_32 : decode cX9_raise 32 = .ok (.iload_n 0, 1) := by decide +kernel
theorem dX9_raise_33 : decode cX9_raise 33 = .ok (.iconst 3, 1) := by decide +kernel
theorem dX9_raise_34 : decode cX9_raise 34 = .ok (.if_icmp .ne 14, 3) := by decide +kernel
theorem dX9_raise_37 : decode cX9_raise 37 = .ok (.new 218, 3) := by decide +kernel
theorem dX9_raise_40 : decode cX9_raise 40 = .ok (.dup, 1) := by decide +kernel
theorem dX9_raise_41 : decode cX9_raise 41 = .ok (.ldc_w 402, 3) := by decide +kernel
theorem dX9_raise_44 : decode cX9_raise 44 = .ok (.invokespecial 222, 3) := by decide +kernel
theorem dX9_raise_47 : decode cX9_raise 47 = .ok (.athrow, 1) := by decide +kernel
theorem dX9_raise_48 : decode cX9_raise 48 = .ok (.return_, 1) := by decide +kernel
theorem dX9_demandCell_0 : decode cX9_demandCell 0 = .ok (.iload_n 0, 1) := by decide +kernel
theorem dX9_demandCell_1 : decode cX9_demandCell 1 = .ok (.invokestatic 404, 3) := by decide +kernel
theorem dX9_demandCell_4 : decode cX9_demandCell 4 = .ok (.ifCond .ne 14, 3) := by decide +kernel
theorem dX9_demandCell_7 : decode cX9_demandCell 7 = .ok (.new 395, 3) := by decide +kernel
theorem dX9_demandCell_10 : decode cX9_demandCell 10 = .ok (.dup, 1) := by decide +kernel
theorem dX9_demandCell_11 : decode cX9_demandCell 11 = .ok (.ldc_w 397, 3) := by decide +kernel
theorem dX9_demandCell_14 : decode cX9_demandCell 14 = .ok (.invokespecial 399, 3) := by decide +kernel
theorem dX9_demandCell_17 : decode cX9_demandCell 17 = .ok (.athrow, 1) := by decide +kernel
theorem dX9_demandCell_18 : decode cX9_demandCell 18 = .ok (.return_, 1) := by decide +kernel
theorem dX9_demandRobot_0 : decode cX9_demandRobot 0 = .ok (.iload_n 1, 1) := by decide +kernel
theorem dX9_demandRobot_1 : decode cX9_demandRobot 1 = .ok (.ifCond .lt 14, 3) := by decide +kernel
theorem dX9_demandRobot_4 : decode cX9_demandRobot 4 = .ok (.iload_n 1, 1) := by decide +kernel
theorem dX9_demandRobot_5 : decode cX9_demandRobot 5 = .ok (.aload_n 0, 1) := by decide +kernel
theorem dX9_demandRobot_6 : decode cX9_demandRobot 6 = .ok (.getfield 12, 3) := by decide +kernel
theorem dX9_demandRobot_9 : decode cX9_demandRobot 9 = .ok (.getfield 53, 3) := by decide +kernel
theorem dX9_demandRobot_12 : decode cX9_demandRobot 12 = .ok (.if_icmp .lt 14, 3) := by decide +kernel
theorem dX9_demandRobot_15 : decode cX9_demandRobot 15 = .ok (.new 395, 3) := by decide +kernel
theorem dX9_demandRobot_18 : decode cX9_demandRobot 18 = .ok (.dup, 1) := by decide +kernel
theorem dX9_demandRobot_19 : decode cX9_demandRobot 19 = .ok (.ldc_w 407, 3) := by decide +kernel
theorem dX9_demandRobot_22 : decode cX9_demandRobot 22 = .ok (.invokespecial 399, 3) := by decide +kernel
theorem dX9_demandRobot_25 : decode cX9_demandRobot 25 = .ok (.athrow, 1) := by decide +kernel
theorem dX9_demandRobot_26 : decode cX9_demandRobot 26 = .ok (.return_, 1) := by decide +kernel
theorem dX9_demandTask_0 : decode cX9_demandTask 0 = .ok (.iload_n 1, 1) := by decide +kernel
theorem dX9_demandTask_1 : decode cX9_demandTask 1 = .ok (.ifCond .lt 14, 3) := by decide +kernel
theorem dX9_demandTask_4 : decode cX9_demandTask 4 = .ok (.iload_n 1, 1) := by decide +kernel
theorem dX9_demandTask_5 : decode cX9_demandTask 5 = .ok (.aload_n 0, 1) := by decide +kernel
theorem dX9_demandTask_6 : decode cX9_demandTask 6 = .ok (.getfield 12, 3) := by decide +kernel
theorem dX9_demandTask_9 : decode cX9_demandTask 9 = .ok (.getfield 139, 3) := by decide +kernel
theorem dX9_demandTask_12 : decode cX9_demandTask 12 = .ok (.if_icmp .lt 14, 3) := by decide +kernel
theorem dX9_demandTask_15 : decode cX9_demandTask 15 = .ok (.new 395, 3) := by decide +kernel
theorem dX9_demandTask_18 : decode cX9_demandTask 18 = .ok (.dup, 1) := by decide +kernel
theorem dX9_demandTask_19 : decode cX9_demandTask 19 = .ok (.ldc_w 409, 3) := by decide +kernel
theorem dX9_demandTask_22 : decode cX9_demandTask 22 = .ok (.invokespecial 399, 3) := by decide +kernel
theorem dX9_demandTask_25 : decode cX9_demandTask 25 = .ok (.athrow, 1) := by decide +kernel
theorem dX9_demandTask_26 : decode cX9_demandTask 26 = .ok (.return_, 1) := by decide +kernel
theorem dX9_demandServable_0 : decode cX9_demandServable 0 = .ok (.aload_n 0, 1) := by decide +kernel
theorem dX9_demandServable_1 : decode cX9_demandServable 1 = .ok (.getfield 12, 3) := by decide +kernel
theorem dX9_demandServable_4 : decode cX9_demandServable 4 = .ok (.iload_n 1, 1) := by decide +kernel
theorem dX9_demandServable_5 : decode cX9_demandServable 5 = .ok (.invokevirtual 240, 3) := by decide +kernel
theorem dX9_demandServable_8 : decode cX9_demandServable 8 = .ok (.getfield 265, 3) := by decide +kernel
theorem dX9_demandServable_11 : decode cX9_demandServable 11 = .ok (.istore_n 2, 1) := by decide +kernel
theorem dX9_demandServable_12 : decode cX9_demandServable 12 = .ok (.iload_n 2, 1) := by decide +kernel
theorem dX9_demandServable_13 : decode cX9_demandServable 13 = .ok (.iconst 1, 1) := by decide +kernel
theorem dX9_demandServable_14 : decode cX9_demandServable 14 = .ok (.if_icmp .eq 8, 3) := by decide +kernel
theorem dX9_demandServable_17 : decode cX9_demandServable 17 = .ok (.iload_n 2, 1) := by decide +kernel
theorem dX9_demandServable_18 : decode cX9_demandServable 18 = .ok (.iconst 2, 1) := by decide +kernel
theorem dX9_demandServable_19 : decode cX9_demandServable 19 = .ok (.if_icmp .ne 14, 3) := by decide +kernel
theorem dX9_demandServable_22 : decode cX9_demandServable 22 = .ok (.new 218, 3) := by decide +kernel
theorem dX9_demandServable_25 : decode cX9_demandServable 25 = .ok (.dup, 1) := by decide +kernel
theorem dX9_demandServable_26 : decode cX9_demandServable 26 = .ok (.ldc_w 411, 3) := by decide +kernel
theorem dX9_demandServable_29 : decode cX9_demandServable 29 = .ok (.invokespecial 222, 3) := by decide +kernel
theorem dX9_demandServable_32 : decode cX9_demandServable 32 = .ok (.athrow, 1) := by decide +kernel
theorem dX9_demandServable_33 : decode cX9_demandServable 33 = .ok (.return_, 1) := by decide +kernel
theorem dX9_demandPlace_0 : decode cX9_demandPlace 0 = .ok (.iload_n 0, 1) := by decide +kernel
theorem dX9_demandPlace_1 : decode cX9_demandPlace 1 = .ok (.ifCond .lt 17, 3) := by decide +kernel
theorem dX9_demandPlace_4 : decode cX9_demandPlace 4 = .ok (.iload_n 0, 1) := by decide +kernel
theorem dX9_demandPlace_5 : decode cX9_demandPlace 5 = .ok (.iconst 2, 1) := by decide +kernel
theorem dX9_demandPlace_6 : decode cX9_demandPlace 6 = .ok (.if_icmp .ge 12, 3) := by decide +kernel
theorem dX9_demandPlace_9 : decode cX9_demandPlace 9 = .ok (.iload_n 1, 1) := by decide +kernel
theorem dX9_demandPlace_10 : decode cX9_demandPlace 10 = .ok (.ifCond .lt 8, 3) := by decide +kernel
theorem dX9_demandPlace_13 : decode cX9_demandPlace 13 = .ok (.iload_n 1, 1) := by decide +kernel
theorem dX9_demandPlace_14 : decode cX9_demandPlace 14 = .ok (.iconst 3, 1) := by decide +kernel
theorem dX9_demandPlace_15 : decode cX9_demandPlace 15 = .ok (.if_icmp .lt 14, 3) := by decide +kernel
theorem dX9_demandPlace_18 : decode cX9_demandPlace 18 = .ok (.new 395, 3) := by decide +kernel
theorem dX9_demandPlace_21 : decode cX9_demandPlace 21 = .ok (.dup, 1) := by decide +kernel
theorem dX9_demandPlace_22 : decode cX9_demandPlace 22 = .ok (.ldc_w 413, 3) := by decide +kernel
theorem dX9_demandPlace_25 : decode cX9_demandPlace 25 = .ok (.invokespecial 399, 3) := by decide +kernel
theorem dX9_demandPlace_28 : decode cX9_demandPlace 28 = .ok (.athrow, 1) := by decide +kernel
theorem dX9_demandPlace_29 : decode cX9_demandPlace 29 = .ok (.return_, 1) := by decide +kernel
theorem dX9_demandTicks_0 : decode cX9_demandTicks 0 = .ok (.iload_n 0, 1) := by decide +kernel
theorem dX9_demandTicks_1 : decode cX9_demandTicks 1 = .ok (.iload_n 1, 1) := by decide +kernel
theorem dX9_demandTicks_2 : decode cX9_demandTicks 2 = .ok (.if_icmp .lt 9, 3) := by decide +kernel
theorem dX9_demandTicks_5 : decode cX9_demandTicks 5 = .ok (.iload_n 0, 1) := by decide +kernel
theorem dX9_demandTicks_6 : decode cX9_demandTicks 6 = .ok (.bipush 30, 2) := by decide +kernel
theorem dX9_demandTicks_8 : decode cX9_demandTicks 8 = .ok (.if_icmp .le 14, 3) := by decide +kernel
theorem dX9_demandTicks_11 : decode cX9_demandTicks 11 = .ok (.new 132, 3) := by decide +kernel
theorem dX9_demandTicks_14 : decode cX9_demandTicks 14 = .ok (.dup, 1) := by decide +kernel
theorem dX9_demandTicks_15 : decode cX9_demandTicks 15 = .ok (.ldc_w 415, 3) := by decide +kernel
theorem dX9_demandTicks_18 : decode cX9_demandTicks 18 = .ok (.invokespecial 136, 3) := by decide +kernel
theorem dX9_demandTicks_21 : decode cX9_demandTicks 21 = .ok (.athrow, 1) := by decide +kernel
theorem dX9_demandTicks_22 : decode cX9_demandTicks 22 = .ok (.return_, 1) := by decide +kernel
theorem dX9_demandOutsideLift_0 : decode cX9_demandOutsideLift 0 = .ok (.aload_n 0, 1) := by decide +kernel
theorem dX9_demandOutsideLift_1 : decode cX9_demandOutsideLift 1 = .ok (.getfield 12, 3) := by decide +kernel
theorem dX9_demandOutsideLift_4 : decode cX9_demandOutsideLift 4 = .ok (.iload_n 1, 1) := by decide +kernel
theorem dX9_demandOutsideLift_5 : decode cX9_demandOutsideLift 5 = .ok (.invokevirtual 209, 3) := by decide +kernel
theorem dX9_demandOutsideLift_8 : decode cX9_demandOutsideLift 8 = .ok (.ifCond .eq 14, 3) := by decide +kernel
theorem dX9_demandOutsideLift_11 : decode cX9_demandOutsideLift 11 = .ok (.new 218, 3) := by decide +kernel
theorem dX9_demandOutsideLift_14 : decode cX9_demandOutsideLift 14 = .ok (.dup, 1) := by decide +kernel
theorem dX9_demandOutsideLift_15 : decode cX9_demandOutsideLift 15 = .ok (.ldc_w 417, 3) := by decide +kernel
theorem dX9_demandOutsideLift_18 : decode cX9_demandOutsideLift 18 = .ok (.invokespecial 222, 3) := by decide +kernel
theorem dX9_demandOutsideLift_21 : decode cX9_demandOutsideLift 21 = .ok (.athrow, 1) := by decide +kernel
theorem dX9_demandOutsideLift_22 : decode cX9_demandOutsideLift 22 = .ok (.return_, 1) := by decide +kernel
theorem dX9_demandFinalRoute_0 : decode cX9_demandFinalRoute 0 = .ok (.aload_n 0, 1) := by decide +kernel
theorem dX9_demandFinalRoute_1 : decode cX9_demandFinalRoute 1 = .ok (.iload_n 1, 1) := by decide +kernel
theorem dX9_demandFinalRoute_2 : decode cX9_demandFinalRoute 2 = .ok (.invokevirtual 93, 3) := by decide +kernel
theorem dX9_demandFinalRoute_5 : decode cX9_demandFinalRoute 5 = .ok (.iload_n 2, 1) := by decide +kernel
theorem dX9_demandFinalRoute_6 : decode cX9_demandFinalRoute 6 = .ok (.invokestatic 81, 3) := by decide +kernel
theorem dX9_demandFinalRoute_9 : decode cX9_demandFinalRoute 9 = .ok (.aload_n 0, 1) := by decide +kernel
theorem dX9_demandFinalRoute_10 : decode cX9_demandFinalRoute 10 = .ok (.iload_n 1, 1) := by decide +kernel
theorem dX9_demandFinalRoute_11 : decode cX9_demandFinalRoute 11 = .ok (.invokevirtual 193, 3) := by decide +kernel
theorem dX9_demandFinalRoute_14 : decode cX9_demandFinalRoute 14 = .ok (.aload_n 0, 1) := by decide +kernel
theorem dX9_demandFinalRoute_15 : decode cX9_demandFinalRoute 15 = .ok (.getfield 27, 3) := by decide +kernel
theorem dX9_demandFinalRoute_18 : decode cX9_demandFinalRoute 18 = .ok (.iload_n 1, 1) := by decide +kernel
theorem dX9_demandFinalRoute_19 : decode cX9_demandFinalRoute 19 = .ok (.iload_n 2, 1) := by decide +kernel
theorem dX9_demandFinalRoute_20 : decode cX9_demandFinalRoute 20 = .ok (.invokevirtual 231, 3) := by decide +kernel
theorem dX9_demandFinalRoute_23 : decode cX9_demandFinalRoute 23 = .ok (.ifCond .ne 14, 3) := by decide +kernel
theorem dX9_demandFinalRoute_26 : decode cX9_demandFinalRoute 26 = .ok (.new 152, 3) := by decide +kernel
theorem dX9_demandFinalRoute_29 : decode cX9_demandFinalRoute 29 = .ok (.dup, 1) := by decide +kernel
theorem dX9_demandFinalRoute_30 : decode cX9_demandFinalRoute 30 = .ok (.ldc_w 419, 3) := by decide +kernel
theorem dX9_demandFinalRoute_33 : decode cX9_demandFinalRoute 33 = .ok (.invokespecial 156, 3) := by decide +kernel
theorem dX9_demandFinalRoute_36 : decode cX9_demandFinalRoute 36 = .ok (.athrow, 1) := by decide +kernel
theorem dX9_demandFinalRoute_37 : decode cX9_demandFinalRoute 37 = .ok (.return_, 1) := by decide +kernel
theorem dX9_activityOf_0 : decode cX9_activityOf 0 = .ok (.aload_n 0, 1) := by decide +kernel
theorem dX9_activityOf_1 : decode cX9_activityOf 1 = .ok (.getfield 12, 3) := by decide +kernel
theorem dX9_activityOf_4 : decode cX9_activityOf 4 = .ok (.getfield 106, 3) := by decide +kernel
theorem dX9_activityOf_7 : decode cX9_activityOf 7 = .ok (.aload_n 1, 1) := by decide +kernel
theorem dX9_activityOf_8 : decode cX9_activityOf 8 = .ok (.getfield 421, 3) := by decide +kernel
theorem dX9_activityOf_11 : decode cX9_activityOf 11 = .ok (.isub, 1) := by decide +kernel
theorem dX9_activityOf_12 : decode cX9_activityOf 12 = .ok (.istore_n 2, 1) := by decide +kernel
theorem dX9_activityOf_13 : decode cX9_activityOf 13 = .ok (.iload_n 2, 1) := by decide +kernel
theorem dX9_activityOf_14 : decode cX9_activityOf 14 = .ok (.ifCond .gt 14, 3) := by decide +kernel
theorem dX9_activityOf_17 : decode cX9_activityOf 17 = .ok (.new 318, 3) := by decide +kernel
theorem dX9_activityOf_20 : decode cX9_activityOf 20 = .ok (.dup, 1) := by decide +kernel
theorem dX9_activityOf_21 : decode cX9_activityOf 21 = .ok (.ldc_w 422, 3) := by decide +kernel
theorem dX9_activityOf_24 : decode cX9_activityOf 24 = .ok (.invokespecial 322, 3) := by decide +kernel
theorem dX9_activityOf_27 : decode cX9_activityOf 27 = .ok (.athrow, 1) := by decide +kernel
theorem dX9_activityOf_28 : decode cX9_activityOf 28 = .ok (.iload_n 2, 1) := by decide +kernel
theorem dX9_activityOf_29 : decode cX9_activityOf 29 = .ok (.aload_n 1, 1) := by decide +kernel
theorem dX9_activityOf_30 : decode cX9_activityOf 30 = .ok (.getfield 304, 3) := by decide +kernel
theorem dX9_activityOf_33 : decode cX9_activityOf 33 = .ok (.iconst 2, 1) := by decide +kernel
theorem dX9_activityOf_34 : decode cX9_activityOf 34 = .ok (.invokestatic 69, 3) := by decide +kernel
theorem dX9_activityOf_37 : decode cX9_activityOf 37 = .ok (.isub, 1) := by decide +kernel
theorem dX9_activityOf_38 : decode cX9_activityOf 38 = .ok (.i2f, 1) := by decide +kernel
theorem dX9_activityOf_39 : decode cX9_activityOf 39 = .ok (.iload_n 2, 1) := by decide +kernel
theorem dX9_activityOf_40 : decode cX9_activityOf 40 = .ok (.i2f, 1) := by decide +kernel
theorem dX9_activityOf_41 : decode cX9_activityOf 41 = .ok (.fdiv, 1) := by decide +kernel
theorem dX9_activityOf_42 : decode cX9_activityOf 42 = .ok (.freturn, 1) := by decide +kernel
theorem dX9_bitsOf_0 : decode cX9_bitsOf 0 = .ok (.fload_n 0, 1) := by decide +kernel
theorem dX9_bitsOf_1 : decode cX9_bitsOf 1 = .ok (.fconst 0, 1) := by decide +kernel
theorem dX9_bitsOf_2 : decode cX9_bitsOf 2 = .ok (.fcmp .l, 1) := by decide +kernel
theorem dX9_bitsOf_3 : decode cX9_bitsOf 3 = .ok (.ifCond .gt 5, 3) := by decide +kernel
theorem dX9_bitsOf_6 : decode cX9_bitsOf 6 = .ok (.iconst 0, 1) := by decide +kernel
theorem dX9_bitsOf_7 : decode cX9_bitsOf 7 = .ok (.ireturn, 1) := by decide +kernel
theorem dX9_bitsOf_8 : decode cX9_bitsOf 8 = .ok (.fload_n 0, 1) := by decide +kernel
theorem dX9_bitsOf_9 : decode cX9_bitsOf 9 = .ok (.fstore_n 1, 1) := by decide +kernel
theorem dX9_bitsOf_10 : decode cX9_bitsOf 10 = .ok (.bipush 127, 2) := by decide +kernel
theorem dX9_bitsOf_12 : decode cX9_bitsOf 12 = .ok (.istore_n 2, 1) := by decide +kernel
theorem dX9_bitsOf_13 : decode cX9_bitsOf 13 = .ok (.fload_n 1, 1) := by decide +kernel
theorem dX9_bitsOf_14 : decode cX9_bitsOf 14 = .ok (.fconst 1, 1) := by decide +kernel
theorem dX9_bitsOf_15 : decode cX9_bitsOf 15 = .ok (.fcmp .g, 1) := by decide +kernel
theorem dX9_bitsOf_16 : decode cX9_bitsOf 16 = .ok (.ifCond .ge 18, 3) := by decide +kernel
theorem dX9_bitsOf_19 : decode cX9_bitsOf 19 = .ok (.iload_n 2, 1) := by decide +kernel
theorem dX9_bitsOf_20 : decode cX9_bitsOf 20 = .ok (.iconst 1, 1) := by decide +kernel
theorem dX9_bitsOf_21 : decode cX9_bitsOf 21 = .ok (.if_icmp .le 13, 3) := by decide +kernel
theorem dX9_bitsOf_24 : decode cX9_bitsOf 24 = .ok (.fload_n 1, 1) := by decide +kernel
theorem dX9_bitsOf_25 : decode cX9_bitsOf 25 = .ok (.fconst 2, 1) := by decide +kernel
theorem dX9_bitsOf_26 : decode cX9_bitsOf 26 = .ok (.fmul, 1) := by decide +kernel
theorem dX9_bitsOf_27 : decode cX9_bitsOf 27 = .ok (.fstore_n 1, 1) := by decide +kernel
theorem dX9_bitsOf_28 : decode cX9_bitsOf 28 = .ok (.iinc 2 (-1), 3) := by decide +kernel
theorem dX9_bitsOf_31 : decode cX9_bitsOf 31 = .ok (.goto (-18), 3) := by decide +kernel
theorem dX9_bitsOf_34 : decode cX9_bitsOf 34 = .ok (.iload_n 2, 1) := by decide +kernel
theorem dX9_bitsOf_35 : decode cX9_bitsOf 35 = .ok (.bipush 23, 2) := by decide +kernel
theorem dX9_bitsOf_37 : decode cX9_bitsOf 37 = .ok (.ishl, 1) := by decide +kernel
theorem dX9_bitsOf_38 : decode cX9_bitsOf 38 = .ok (.fload_n 1, 1) := by decide +kernel
theorem dX9_bitsOf_39 : decode cX9_bitsOf 39 = .ok (.ldc_w 424, 3) := by decide +kernel
theorem dX9_bitsOf_42 : decode cX9_bitsOf 42 = .ok (.fmul, 1) := by decide +kernel
theorem dX9_bitsOf_43 : decode cX9_bitsOf 43 = .ok (.f2i, 1) := by decide +kernel
theorem dX9_bitsOf_44 : decode cX9_bitsOf 44 = .ok (.ldc_w 425, 3) := by decide +kernel
theorem dX9_bitsOf_47 : decode cX9_bitsOf 47 = .ok (.iand, 1) := by decide +kernel
theorem dX9_bitsOf_48 : decode cX9_bitsOf 48 = .ok (.ior, 1) := by decide +kernel
theorem dX9_bitsOf_49 : decode cX9_bitsOf 49 = .ok (.ireturn, 1) := by decide +kernel
theorem dX9_at_0 : decode cX9_at 0 = .ok (.iload_n 1, 1) := by decide +kernel
theorem dX9_at_1 : decode cX9_at 1 = .ok (.ifCond .lt 15, 3) := by decide +kernel
theorem dX9_at_4 : decode cX9_at 4 = .ok (.iload_n 1, 1) := by decide +kernel
theorem dX9_at_5 : decode cX9_at 5 = .ok (.aload_n 0, 1) := by decide +kernel
theorem dX9_at_6 : decode cX9_at 6 = .ok (.arraylength, 1) := by decide +kernel
theorem dX9_at_7 : decode cX9_at 7 = .ok (.if_icmp .ge 9, 3) := by decide +kernel
theorem dX9_at_10 : decode cX9_at 10 = .ok (.aload_n 0, 1) := by decide +kernel
theorem dX9_at_11 : decode cX9_at 11 = .ok (.iload_n 1, 1) := by decide +kernel
theorem dX9_at_12 : decode cX9_at 12 = .ok (.iaload, 1) := by decide +kernel
theorem dX9_at_13 : decode cX9_at 13 = .ok (.goto 4, 3) := by decide +kernel
theorem dX9_at_16 : decode cX9_at 16 = .ok (.iconst 0, 1) := by decide +kernel
theorem dX9_at_17 : decode cX9_at 17 = .ok (.ireturn, 1) := by decide +kernel
theorem dX9_put_0 : decode cX9_put 0 = .ok (.iload_n 1, 1) := by decide +kernel
theorem dX9_put_1 : decode cX9_put 1 = .ok (.ifCond .lt 13, 3) := by decide +kernel
theorem dX9_put_4 : decode cX9_put 4 = .ok (.iload_n 1, 1) := by decide +kernel
theorem dX9_put_5 : decode cX9_put 5 = .ok (.aload_n 0, 1) := by decide +kernel
theorem dX9_put_6 : decode cX9_put 6 = .ok (.arraylength, 1) := by decide +kernel
theorem dX9_put_7 : decode cX9_put 7 = .ok (.if_icmp .ge 7, 3) := by decide +kernel
theorem dX9_put_10 : decode cX9_put 10 = .ok (.aload_n 0, 1) := by decide +kernel
theorem dX9_put_11 : decode cX9_put 11 = .ok (.iload_n 1, 1) := by decide +kernel
theorem dX9_put_12 : decode cX9_put 12 = .ok (.iload_n 2, 1) := by decide +kernel
theorem dX9_put_13 : decode cX9_put 13 = .ok (.iastore, 1) := by decide +kernel
theorem dX9_put_14 : decode cX9_put 14 = .ok (.return_, 1) := by decide +kernel
theorem dX9_maskAt_0 : decode cX9_maskAt 0 = .ok (.iload_n 1, 1) := by decide +kernel
theorem dX9_maskAt_1 : decode cX9_maskAt 1 = .ok (.ifCond .lt 15, 3) := by decide +kernel
theorem dX9_maskAt_4 : decode cX9_maskAt 4 = .ok (.iload_n 1, 1) := by decide +kernel
theorem dX9_maskAt_5 : decode cX9_maskAt 5 = .ok (.aload_n 0, 1) := by decide +kernel
theorem dX9_maskAt_6 : decode cX9_maskAt 6 = .ok (.arraylength, 1) := by decide +kernel
theorem dX9_maskAt_7 : decode cX9_maskAt 7 = .ok (.if_icmp .ge 9, 3) := by decide +kernel
theorem dX9_maskAt_10 : decode cX9_maskAt 10 = .ok (.aload_n 0, 1) := by decide +kernel
theorem dX9_maskAt_11 : decode cX9_maskAt 11 = .ok (.iload_n 1, 1) := by decide +kernel
theorem dX9_maskAt_12 : decode cX9_maskAt 12 = .ok (.laload, 1) := by decide +kernel
theorem dX9_maskAt_13 : decode cX9_maskAt 13 = .ok (.goto 4, 3) := by decide +kernel
theorem dX9_maskAt_16 : decode cX9_maskAt 16 = .ok (.lconst 0, 1) := by decide +kernel
theorem dX9_maskAt_17 : decode cX9_maskAt 17 = .ok (.lreturn, 1) := by decide +kernel
theorem dX9_join_0 : decode cX9_join 0 = .ok (.iload_n 1, 1) := by decide +kernel
theorem dX9_join_1 : decode cX9_join 1 = .ok (.ifCond .lt 16, 3) := by decide +kernel
theorem dX9_join_4 : decode cX9_join 4 = .ok (.iload_n 1, 1) := by decide +kernel
theorem dX9_join_5 : decode cX9_join 5 = .ok (.aload_n 0, 1) := by decide +kernel
theorem dX9_join_6 : decode cX9_join 6 = .ok (.arraylength, 1) := by decide +kernel
theorem dX9_join_7 : decode cX9_join 7 = .ok (.if_icmp .ge 10, 3) := by decide +kernel
theorem dX9_join_10 : decode cX9_join 10 = .ok (.aload_n 0, 1) := by decide +kernel
theorem dX9_join_11 : decode cX9_join 11 = .ok (.iload_n 1, 1) := by decide +kernel
theorem dX9_join_12 : decode cX9_join 12 = .ok (.dup2, 1) := by decide +kernel
theorem dX9_join_13 : decode cX9_join 13 = .ok (.laload, 1) := by decide +kernel
theorem dX9_join_14 : decode cX9_join 14 = .ok (.lload_n 2, 1) := by decide +kernel
theorem dX9_join_15 : decode cX9_join 15 = .ok (.lor, 1) := by decide +kernel
theorem dX9_join_16 : decode cX9_join 16 = .ok (.lastore, 1) := by decide +kernel
theorem dX9_join_17 : decode cX9_join 17 = .ok (.return_, 1) := by decide +kernel
theorem dX9_fill_0 : decode cX9_fill 0 = .ok (.iconst 0, 1) := by decide +kernel
theorem dX9_fill_1 : decode cX9_fill 1 = .ok (.istore_n 2, 1) := by decide +kernel
theorem dX9_fill_2 : decode cX9_fill 2 = .ok (.iload_n 2, 1) := by decide +kernel
theorem dX9_fill_3 : decode cX9_fill 3 = .ok (.aload_n 0, 1) := by decide +kernel
theorem dX9_fill_4 : decode cX9_fill 4 = .ok (.arraylength, 1) := by decide +kernel
theorem dX9_fill_5 : decode cX9_fill 5 = .ok (.if_icmp .ge 13, 3) := by decide +kernel
theorem dX9_fill_8 : decode cX9_fill 8 = .ok (.aload_n 0, 1) := by decide +kernel
theorem dX9_fill_9 : decode cX9_fill 9 = .ok (.iload_n 2, 1) := by decide +kernel
theorem dX9_fill_10 : decode cX9_fill 10 = .ok (.iload_n 1, 1) := by decide +kernel
theorem dX9_fill_11 : decode cX9_fill 11 = .ok (.iastore, 1) := by decide +kernel
theorem dX9_fill_12 : decode cX9_fill 12 = .ok (.iinc 2 1, 3) := by decide +kernel
theorem dX9_fill_15 : decode cX9_fill 15 = .ok (.goto (-13), 3) := by decide +kernel
theorem dX9_fill_18 : decode cX9_fill 18 = .ok (.return_, 1) := by decide +kernel
theorem dX9_fillMasks_0 : decode cX9_fillMasks 0 = .ok (.iconst 0, 1) := by decide +kernel
theorem dX9_fillMasks_1 : decode cX9_fillMasks 1 = .ok (.istore_n 3, 1) := by decide +kernel
theorem dX9_fillMasks_2 : decode cX9_fillMasks 2 = .ok (.iload_n 3, 1) := by decide +kernel
theorem dX9_fillMasks_3 : decode cX9_fillMasks 3 = .ok (.aload_n 0, 1) := by decide +kernel
theorem dX9_fillMasks_4 : decode cX9_fillMasks 4 = .ok (.arraylength, 1) := by decide +kernel
theorem dX9_fillMasks_5 : decode cX9_fillMasks 5 = .ok (.if_icmp .ge 13, 3) := by decide +kernel
theorem dX9_fillMasks_8 : decode cX9_fillMasks 8 = .ok (.aload_n 0, 1) := by decide +kernel
theorem dX9_fillMasks_9 : decode cX9_fillMasks 9 = .ok (.iload_n 3, 1) := by decide +kernel
theorem dX9_fillMasks_10 : decode cX9_fillMasks 10 = .ok (.lload_n 1, 1) := by decide +kernel
theorem dX9_fillMasks_11 : decode cX9_fillMasks 11 = .ok (.lastore, 1) := by decide +kernel
theorem dX9_fillMasks_12 : decode cX9_fillMasks 12 = .ok (.iinc 3 1, 3) := by decide +kernel
theorem dX9_fillMasks_15 : decode cX9_fillMasks 15 = .ok (.goto (-13), 3) := by decide +kernel
theorem dX9_fillMasks_18 : decode cX9_fillMasks 18 = .ok (.return_, 1) := by decide +kernel
theorem dX9_copyRow_0 : decode cX9_copyRow 0 = .ok (.iconst 0, 1) := by decide +kernel
theorem dX9_copyRow_1 : decode cX9_copyRow 1 = .ok (.istore_n 2, 1) := by decide +kernel
theorem dX9_copyRow_2 : decode cX9_copyRow 2 = .ok (.iload_n 2, 1) := by decide +kernel
theorem dX9_copyRow_3 : decode cX9_copyRow 3 = .ok (.aload_n 0, 1) := by decide +kernel
theorem dX9_copyRow_4 : decode cX9_copyRow 4 = .ok (.arraylength, 1) := by decide +kernel
theorem dX9_copyRow_5 : decode cX9_copyRow 5 = .ok (.if_icmp .ge 21, 3) := by decide +kernel
theorem dX9_copyRow_8 : decode cX9_copyRow 8 = .ok (.iload_n 2, 1) := by decide +kernel
theorem dX9_copyRow_9 : decode cX9_copyRow 9 = .ok (.aload_n 1, 1) := by decide +kernel
theorem dX9_copyRow_10 : decode cX9_copyRow 10 = .ok (.arraylength, 1) := by decide +kernel
theorem dX9_copyRow_11 : decode cX9_copyRow 11 = .ok (.if_icmp .ge 15, 3) := by decide +kernel
theorem dX9_copyRow_14 : decode cX9_copyRow 14 = .ok (.aload_n 1, 1) := by decide +kernel
theorem dX9_copyRow_15 : decode cX9_copyRow 15 = .ok (.iload_n 2, 1) := by decide +kernel
theorem dX9_copyRow_16 : decode cX9_copyRow 16 = .ok (.aload_n 0, 1) := by decide +kernel
theorem dX9_copyRow_17 : decode cX9_copyRow 17 = .ok (.iload_n 2, 1) := by decide +kernel
theorem dX9_copyRow_18 : decode cX9_copyRow 18 = .ok (.iaload, 1) := by decide +kernel
theorem dX9_copyRow_19 : decode cX9_copyRow 19 = .ok (.iastore, 1) := by decide +kernel
theorem dX9_copyRow_20 : decode cX9_copyRow 20 = .ok (.iinc 2 1, 3) := by decide +kernel
theorem dX9_copyRow_23 : decode cX9_copyRow 23 = .ok (.goto (-21), 3) := by decide +kernel
theorem dX9_copyRow_26 : decode cX9_copyRow 26 = .ok (.return_, 1) := by decide +kernel
theorem dX9_isCell_0 : decode cX9_isCell 0 = .ok (.iload_n 0, 1) := by decide +kernel
theorem dX9_isCell_1 : decode cX9_isCell 1 = .ok (.ifCond .lt 13, 3) := by decide +kernel
theorem dX9_isCell_4 : decode cX9_isCell 4 = .ok (.iload_n 0, 1) := by decide +kernel
theorem dX9_isCell_5 : decode cX9_isCell 5 = .ok (.bipush 40, 2) := by decide +kernel
theorem dX9_isCell_7 : decode cX9_isCell 7 = .ok (.if_icmp .ge 7, 3) := by decide +kernel
theorem dX9_isCell_10 : decode cX9_isCell 10 = .ok (.iconst 1, 1) := by decide +kernel
theorem dX9_isCell_11 : decode cX9_isCell 11 = .ok (.goto 4, 3) := by decide +kernel
theorem dX9_isCell_14 : decode cX9_isCell 14 = .ok (.iconst 0, 1) := by decide +kernel
theorem dX9_isCell_15 : decode cX9_isCell 15 = .ok (.ireturn, 1) := by decide +kernel
theorem dX9_bit_0 : decode cX9_bit 0 = .ok (.iload_n 0, 1) := by decide +kernel
theorem dX9_bit_1 : decode cX9_bit 1 = .ok (.ifCond .lt 15, 3) := by decide +kernel
theorem dX9_bit_4 : decode cX9_bit 4 = .ok (.iload_n 0, 1) := by decide +kernel
theorem dX9_bit_5 : decode cX9_bit 5 = .ok (.bipush 40, 2) := by decide +kernel
theorem dX9_bit_7 : decode cX9_bit 7 = .ok (.if_icmp .ge 9, 3) := by decide +kernel
theorem dX9_bit_10 : decode cX9_bit 10 = .ok (.lconst 1, 1) := by decide +kernel
theorem dX9_bit_11 : decode cX9_bit 11 = .ok (.iload_n 0, 1) := by decide +kernel
theorem dX9_bit_12 : decode cX9_bit 12 = .ok (.lshl, 1) := by decide +kernel
theorem dX9_bit_13 : decode cX9_bit 13 = .ok (.goto 4, 3) := by decide +kernel
theorem dX9_bit_16 : decode cX9_bit 16 = .ok (.lconst 0, 1) := by decide +kernel
theorem dX9_bit_17 : decode cX9_bit 17 = .ok (.lreturn, 1) := by decide +kernel
theorem dX9_ticksOf_0 : decode cX9_ticksOf 0 = .ok (.iload_n 0, 1) := by decide +kernel
theorem dX9_ticksOf_1 : decode cX9_ticksOf 1 = .ok (.iconst 5, 1) := by decide +kernel
theorem dX9_ticksOf_2 : decode cX9_ticksOf 2 = .ok (.if_icmp .lt 7, 3) := by decide +kernel
theorem dX9_ticksOf_5 : decode cX9_ticksOf 5 = .ok (.iconst 3, 1) := by decide +kernel
theorem dX9_ticksOf_6 : decode cX9_ticksOf 6 = .ok (.goto 4, 3) := by decide +kernel
theorem dX9_ticksOf_9 : decode cX9_ticksOf 9 = .ok (.iconst 1, 1) := by decide +kernel
theorem dX9_ticksOf_10 : decode cX9_ticksOf 10 = .ok (.ireturn, 1) := by decide +kernel
theorem dX9_costOf_0 : decode cX9_costOf 0 = .ok (.iload_n 0, 1) := by decide +kernel
theorem dX9_costOf_1 : decode cX9_costOf 1 = .ok (.iconst 5, 1) := by decide +kernel
theorem dX9_costOf_2 : decode cX9_costOf 2 = .ok (.if_icmp .lt 5, 3) := by decide +kernel
theorem dX9_costOf_5 : decode cX9_costOf 5 = .ok (.iconst 2, 1) := by decide +kernel
theorem dX9_costOf_6 : decode cX9_costOf 6 = .ok (.ireturn, 1) := by decide +kernel
theorem dX9_costOf_7 : decode cX9_costOf 7 = .ok (.iload_n 0, 1) := by decide +kernel
theorem dX9_costOf_8 : decode cX9_costOf 8 = .ok (.ifCond .ne 7, 3) := by decide +kernel
theorem dX9_costOf_11 : decode cX9_costOf 11 = .ok (.iconst 0, 1) := by decide +kernel
theorem dX9_costOf_12 : decode cX9_costOf 12 = .ok (.goto 4, 3) := by decide +kernel
theorem dX9_costOf_15 : decode cX9_costOf 15 = .ok (.iconst 1, 1) := by decide +kernel
theorem dX9_costOf_16 : decode cX9_costOf 16 = .ok (.ireturn, 1) := by decide +kernel
theorem dX9_neighbor_0 : decode cX9_neighbor 0 = .ok (.iload_n 0, 1) := by decide +kernel
theorem dX9_neighbor_1 : decode cX9_neighbor 1 = .ok (.bipush 8, 2) := by decide +kernel
theorem dX9_neighbor_3 : decode cX9_neighbor 3 = .ok (.irem, 1) := by decide +kernel
theorem dX9_neighbor_4 : decode cX9_neighbor 4 = .ok (.istore_n 2, 1) := by decide +kernel
theorem dX9_neighbor_5 : decode cX9_neighbor 5 = .ok (.iload_n 1, 1) := by decide +kernel
theorem dX9_neighbor_6 : decode cX9_neighbor 6 = .ok (.tableswitch 90 1 4 #[30, 46, 60, 78], 30) := by decide +kernel
theorem dX9_neighbor_36 : decode cX9_neighbor 36 = .ok (.iload_n 0, 1) := by decide +kernel
theorem dX9_neighbor_37 : decode cX9_neighbor 37 = .ok (.bipush 8, 2) := by decide +kernel
theorem dX9_neighbor_39 : decode cX9_neighbor 39 = .ok (.isub, 1) := by decide +kernel
theorem dX9_neighbor_40 : decode cX9_neighbor 40 = .ok (.ifCond .lt 10, 3) := by decide +kernel
theorem dX9_neighbor_43 : decode cX9_neighbor 43 = .ok (.iload_n 0, 1) := by decide +kernel
theorem dX9_neighbor_44 : decode cX9_neighbor 44 = .ok (.bipush 8, 2) := by decide +kernel
theorem dX9_neighbor_46 : decode cX9_neighbor 46 = .ok (.isub, 1) := by decide +kernel
theorem dX9_neighbor_47 : decode cX9_neighbor 47 = .ok (.goto 4, 3) := by decide +kernel
theorem dX9_neighbor_50 : decode cX9_neighbor 50 = .ok (.iconst (-1), 1) := by decide +kernel
theorem dX9_neighbor_51 : decode cX9_neighbor 51 = .ok (.ireturn, 1) := by decide +kernel
theorem dX9_neighbor_52 : decode cX9_neighbor 52 = .ok (.iload_n 2, 1) := by decide +kernel
theorem dX9_neighbor_53 : decode cX9_neighbor 53 = .ok (.bipush 7, 2) := by decide +kernel
theorem dX9_neighbor_55 : decode cX9_neighbor 55 = .ok (.if_icmp .ge 9, 3) := by decide +kernel
theorem dX9_neighbor_58 : decode cX9_neighbor 58 = .ok (.iload_n 0, 1) := by decide +kernel
theorem dX9_neighbor_59 : decode cX9_neighbor 59 = .ok (.iconst 1, 1) := by decide +kernel
theorem dX9_neighbor_60 : decode cX9_neighbor 60 = .ok (.iadd, 1) := by decide +kernel
theorem dX9_neighbor_61 : decode cX9_neighbor 61 = .ok (.goto 4, 3) := by decide +kernel
theorem dX9_neighbor_64 : decode cX9_neighbor 64 = .ok (.iconst (-1), 1) := by decide +kernel
theorem dX9_neighbor_65 : decode cX9_neighbor 65 = .ok (.ireturn, 1) := by decide +kernel
theorem dX9_neighbor_66 : decode cX9_neighbor 66 = .ok (.iload_n 0, 1) := by decide +kernel
theorem dX9_neighbor_67 : decode cX9_neighbor 67 = .ok (.bipush 8, 2) := by decide +kernel
theorem dX9_neighbor_69 : decode cX9_neighbor 69 = .ok (.iadd, 1) := by decide +kernel
theorem dX9_neighbor_70 : decode cX9_neighbor 70 = .ok (.bipush 40, 2) := by decide +kernel
theorem dX9_neighbor_72 : decode cX9_neighbor 72 = .ok (.if_icmp .ge 10, 3) := by decide +kernel
theorem dX9_neighbor_75 : decode cX9_neighbor 75 = .ok (.iload_n 0, 1) := by decide +kernel
theorem dX9_neighbor_76 : decode cX9_neighbor 76 = .ok (.bipush 8, 2) := by decide +kernel
theorem dX9_neighbor_78 : decode cX9_neighbor 78 = .ok (.iadd, 1) := by decide +kernel
theorem dX9_neighbor_79 : decode cX9_neighbor 79 = .ok (.goto 4, 3) := by decide +kernel
theorem dX9_neighbor_82 : decode cX9_neighbor 82 = .ok (.iconst (-1), 1) := by decide +kernel
theorem dX9_neighbor_83 : decode cX9_neighbor 83 = .ok (.ireturn, 1) := by decide +kernel
theorem dX9_neighbor_84 : decode cX9_neighbor 84 = .ok (.iload_n 2, 1) := by decide +kernel
theorem dX9_neighbor_85 : decode cX9_neighbor 85 = .ok (.ifCond .le 9, 3) := by decide +kernel
theorem dX9_neighbor_88 : decode cX9_neighbor 88 = .ok (.iload_n 0, 1) := by decide +kernel
theorem dX9_neighbor_89 : decode cX9_neighbor 89 = .ok (.iconst 1, 1) := by decide +kernel
theorem dX9_neighbor_90 : decode cX9_neighbor 90 = .ok (.isub, 1) := by decide +kernel
theorem dX9_neighbor_91 : decode cX9_neighbor 91 = .ok (.goto 4, 3) := by decide +kernel
theorem dX9_neighbor_94 : decode cX9_neighbor 94 = .ok (.iconst (-1), 1) := by decide +kernel
theorem dX9_neighbor_95 : decode cX9_neighbor 95 = .ok (.ireturn, 1) := by decide +kernel
theorem dX9_neighbor_96 : decode cX9_neighbor 96 = .ok (.iconst (-1), 1) := by decide +kernel
theorem dX9_neighbor_97 : decode cX9_neighbor 97 = .ok (.ireturn, 1) := by decide +kernel
theorem dX9_moved_0 : decode cX9_moved 0 = .ok (.iload_n 2, 1) := by decide +kernel
theorem dX9_moved_1 : decode cX9_moved 1 = .ok (.tableswitch 61 1 4 #[31, 36, 44, 53], 31) := by decide +kernel
theorem dX9_moved_32 : decode cX9_moved 32 = .ok (.lload_n 0, 1) := by decide +kernel
theorem dX9_moved_33 : decode cX9_moved 33 = .ok (.bipush 8, 2) := by decide +kernel
theorem dX9_moved_35 : decode cX9_moved 35 = .ok (.lushr, 1) := by decide +kernel
theorem dX9_moved_36 : decode cX9_moved 36 = .ok (.lreturn, 1) := by decide +kernel
theorem dX9_moved_37 : decode cX9_moved 37 = .ok (.lload_n 0, 1) := by decide +kernel
theorem dX9_moved_38 : decode cX9_moved 38 = .ok (.ldc2_w 426, 3) := by decide +kernel
theorem dX9_moved_41 : decode cX9_moved 41 = .ok (.land, 1) := by decide +kernel
theorem dX9_moved_42 : decode cX9_moved 42 = .ok (.iconst 1, 1) := by decide +kernel
theorem dX9_moved_43 : decode cX9_moved 43 = .ok (.lshl, 1) := by decide +kernel
theorem dX9_moved_44 : decode cX9_moved 44 = .ok (.lreturn, 1) := by decide +kernel
theorem dX9_moved_45 : decode cX9_moved 45 = .ok (.lload_n 0, 1) := by decide +kernel
theorem dX9_moved_46 : decode cX9_moved 46 = .ok (.bipush 8, 2) := by decide +kernel
theorem dX9_moved_48 : decode cX9_moved 48 = .ok (.lshl, 1) := by decide +kernel
theorem dX9_moved_49 : decode cX9_moved 49 = .ok (.ldc2_w 428, 3) := by decide +kernel
theorem dX9_moved_52 : decode cX9_moved 52 = .ok (.land, 1) := by decide +kernel
theorem dX9_moved_53 : decode cX9_moved 53 = .ok (.lreturn, 1) := by decide +kernel
theorem dX9_moved_54 : decode cX9_moved 54 = .ok (.lload_n 0, 1) := by decide +kernel
theorem dX9_moved_55 : decode cX9_moved 55 = .ok (.ldc2_w 430, 3) := by decide +kernel
theorem dX9_moved_58 : decode cX9_moved 58 = .ok (.land, 1) := by decide +kernel
theorem dX9_moved_59 : decode cX9_moved 59 = .ok (.iconst 1, 1) := by decide +kernel
theorem dX9_moved_60 : decode cX9_moved 60 = .ok (.lushr, 1) := by decide +kernel
theorem dX9_moved_61 : decode cX9_moved 61 = .ok (.lreturn, 1) := by decide +kernel
theorem dX9_moved_62 : decode cX9_moved 62 = .ok (.lload_n 0, 1) := by decide +kernel
theorem dX9_moved_63 : decode cX9_moved 63 = .ok (.lreturn, 1) := by decide +kernel
theorem dX10_init_0 : decode cX10_init 0 = .ok (.aload_n 0, 1) := by decide +kernel
theorem dX10_init_1 : decode cX10_init 1 = .ok (.invokespecial 1, 3) := by decide +kernel
theorem dX10_init_4 : decode cX10_init 4 = .ok (.aload_n 0, 1) := by decide +kernel
theorem dX10_init_5 : decode cX10_init 5 = .ok (.sipush 406, 3) := by decide +kernel
theorem dX10_init_8 : decode cX10_init 8 = .ok (.newarray .int, 2) := by decide +kernel
theorem dX10_init_10 : decode cX10_init 10 = .ok (.putfield 7, 3) := by decide +kernel
theorem dX10_init_13 : decode cX10_init 13 = .ok (.aload_n 0, 1) := by decide +kernel
theorem dX10_init_14 : decode cX10_init 14 = .ok (.sipush 406, 3) := by decide +kernel
theorem dX10_init_17 : decode cX10_init 17 = .ok (.newarray .int, 2) := by decide +kernel
theorem dX10_init_19 : decode cX10_init 19 = .ok (.putfield 13, 3) := by decide +kernel
theorem dX10_init_22 : decode cX10_init 22 = .ok (.aload_n 0, 1) := by decide +kernel
theorem dX10_init_23 : decode cX10_init 23 = .ok (.sipush 406, 3) := by decide +kernel
theorem dX10_init_26 : decode cX10_init 26 = .ok (.newarray .int, 2) := by decide +kernel
theorem dX10_init_28 : decode cX10_init 28 = .ok (.putfield 16, 3) := by decide +kernel
theorem dX10_init_31 : decode cX10_init 31 = .ok (.aload_n 0, 1) := by decide +kernel
theorem dX10_init_32 : decode cX10_init 32 = .ok (.bipush 24, 2) := by decide +kernel
theorem dX10_init_34 : decode cX10_init 34 = .ok (.newarray .int, 2) := by decide +kernel
theorem dX10_init_36 : decode cX10_init 36 = .ok (.putfield 19, 3) := by decide +kernel
theorem dX10_init_39 : decode cX10_init 39 = .ok (.aload_n 0, 1) := by decide +kernel
theorem dX10_init_40 : decode cX10_init 40 = .ok (.bipush 40, 2) := by decide +kernel
theorem dX10_init_42 : decode cX10_init 42 = .ok (.newarray .int, 2) := by decide +kernel
theorem dX10_init_44 : decode cX10_init 44 = .ok (.putfield 22, 3) := by decide +kernel
theorem dX10_init_47 : decode cX10_init 47 = .ok (.aload_n 0, 1) := by decide +kernel
theorem dX10_init_48 : decode cX10_init 48 = .ok (.iconst (-1), 1) := by decide +kernel
theorem dX10_init_49 : decode cX10_init 49 = .ok (.putfield 25, 3) := by decide +kernel
theorem dX10_init_52 : decode cX10_init 52 = .ok (.aload_n 0, 1) := by decide +kernel
theorem dX10_init_53 : decode cX10_init 53 = .ok (.sipush 155, 3) := by decide +kernel
theorem dX10_init_56 : decode cX10_init 56 = .ok (.newarray .int, 2) := by decide +kernel
theorem dX10_init_58 : decode cX10_init 58 = .ok (.putfield 29, 3) := by decide +kernel
theorem dX10_init_61 : decode cX10_init 61 = .ok (.aload_n 0, 1) := by decide +kernel
theorem dX10_init_62 : decode cX10_init 62 = .ok (.sipush 155, 3) := by decide +kernel
theorem dX10_init_65 : decode cX10_init 65 = .ok (.newarray .int, 2) := by decide +kernel
theorem dX10_init_67 : decode cX10_init 67 = .ok (.putfield 32, 3) := by decide +kernel
theorem dX10_init_70 : decode cX10_init 70 = .ok (.aload_n 0, 1) := by decide +kernel
theorem dX10_init_71 : decode cX10_init 71 = .ok (.iconst (-1), 1) := by decide +kernel
theorem dX10_init_72 : decode cX10_init 72 = .ok (.putfield 35, 3) := by decide +kernel
theorem dX10_init_75 : decode cX10_init 75 = .ok (.aload_n 0, 1) := by decide +kernel
theorem dX10_init_76 : decode cX10_init 76 = .ok (.sipush 1240, 3) := by decide +kernel
theorem dX10_init_79 : decode cX10_init 79 = .ok (.newarray .boolean, 2) := by decide +kernel
theorem dX10_init_81 : decode cX10_init 81 = .ok (.putfield 38, 3) := by decide +kernel
theorem dX10_init_84 : decode cX10_init 84 = .ok (.aload_n 0, 1) := by decide +kernel
theorem dX10_init_85 : decode cX10_init 85 = .ok (.sipush 1240, 3) := by decide +kernel
theorem dX10_init_88 : decode cX10_init 88 = .ok (.newarray .int, 2) := by decide +kernel
theorem dX10_init_90 : decode cX10_init 90 = .ok (.putfield 42, 3) := by decide +kernel
theorem dX10_init_93 : decode cX10_init 93 = .ok (.aload_n 0, 1) := by decide +kernel
theorem dX10_init_94 : decode cX10_init 94 = .ok (.bipush 64, 2) := by decide +kernel
theorem dX10_init_96 : decode cX10_init 96 = .ok (.newarray .int, 2) := by decide +kernel
theorem dX10_init_98 : decode cX10_init 98 = .ok (.putfield 45, 3) := by decide +kernel
theorem dX10_init_101 : decode cX10_init 101 = .ok (.aload_n 0, 1) := by decide +kernel
theorem dX10_init_102 : decode cX10_init 102 = .ok (.bipush 40, 2) := by decide +kernel
theorem dX10_init_104 : decode cX10_init 104 = .ok (.newarray .int, 2) := by decide +kernel
theorem dX10_init_106 : decode cX10_init 106 = .ok (.putfield 48, 3) := by decide +kernel
theorem dX10_init_109 : decode cX10_init 109 = .ok (.iconst 0, 1) := by decide +kernel
theorem dX10_init_110 : decode cX10_init 110 = .ok (.istore_n 1, 1) := by decide +kernel
theorem dX10_init_111 : decode cX10_init 111 = .ok (.iload_n 1, 1) := by decide +kernel
theorem dX10_init_112 : decode cX10_init 112 = .ok (.bipush 24, 2) := by decide +kernel
theorem dX10_init_114 : decode cX10_init 114 = .ok (.if_icmp .ge 16, 3) := by decide +kernel
theorem dX10_init_117 : decode cX10_init 117 = .ok (.aload_n 0, 1) := by decide +kernel
theorem dX10_init_118 : decode cX10_init 118 = .ok (.getfield 19, 3) := by decide +kernel
theorem dX10_init_121 : decode cX10_init 121 = .ok (.iload_n 1, 1) := by decide +kernel
theorem dX10_init_122 : decode cX10_init 122 = .ok (.iconst (-1), 1) := by decide +kernel
theorem dX10_init_123 : decode cX10_init 123 = .ok (.iastore, 1) := by decide +kernel
theorem dX10_init_124 : decode cX10_init 124 = .ok (.iinc 1 1, 3) := by decide +kernel
theorem dX10_init_127 : decode cX10_init 127 = .ok (.goto (-16), 3) := by decide +kernel
theorem dX10_init_130 : decode cX10_init 130 = .ok (.return_, 1) := by decide +kernel
theorem dX10_thrown_0 : decode cX10_thrown 0 = .ok (.aload_n 0, 1) := by decide +kernel
theorem dX10_thrown_1 : decode cX10_thrown 1 = .ok (.getfield 51, 3) := by decide +kernel
theorem dX10_thrown_4 : decode cX10_thrown 4 = .ok (.ireturn, 1) := by decide +kernel
theorem dX10_fails_0 : decode cX10_fails 0 = .ok (.aload_n 0, 1) := by decide +kernel
theorem dX10_fails_1 : decode cX10_fails 1 = .ok (.iload_n 1, 1) := by decide +kernel
theorem dX10_fails_2 : decode cX10_fails 2 = .ok (.putfield 51, 3) := by decide +kernel
theorem dX10_fails_5 : decode cX10_fails 5 = .ok (.iconst 0, 1) := by decide +kernel
theorem dX10_fails_6 : decode cX10_fails 6 = .ok (.ireturn, 1) := by decide +kernel
theorem dX10_in_0 : decode cX10_in 0 = .ok (.iload_n 0, 1) := by decide +kernel
theorem dX10_in_1 : decode cX10_in 1 = .ok (.iload_n 1, 1) := by decide +kernel
theorem dX10_in_2 : decode cX10_in 2 = .ok (.if_icmp .lt 12, 3) := by decide +kernel
theorem dX10_in_5 : decode cX10_in 5 = .ok (.iload_n 0, 1) := by decide +kernel
theorem dX10_in_6 : decode cX10_in 6 = .ok (.iload_n 2, 1) := by decide +kernel
theorem dX10_in_7 : decode cX10_in 7 = .ok (.if_icmp .gt 7, 3) := by decide +kernel
theorem dX10_in_10 : decode cX10_in 10 = .ok (.iconst 1, 1) := by decide +kernel
theorem dX10_in_11 : decode cX10_in 11 = .ok (.goto 4, 3) := by decide +kernel
theorem dX10_in_14 : decode cX10_in 14 = .ok (.iconst 0, 1) := by decide +kernel
theorem dX10_in_15 : decode cX10_in 15 = .ok (.ireturn, 1) := by decide +kernel
theorem dX10_isCell_0 : decode cX10_isCell 0 = .ok (.iload_n 0, 1) := by decide +kernel
theorem dX10_isCell_1 : decode cX10_isCell 1 = .ok (.iconst 0, 1) := by decide +kernel
theorem dX10_isCell_2 : decode cX10_isCell 2 = .ok (.bipush 39, 2) := by decide +kernel
theorem dX10_isCell_4 : decode cX10_isCell 4 = .ok (.invokestatic 54, 3) := by decide +kernel
theorem dX10_isCell_7 : decode cX10_isCell 7 = .ok (.ireturn, 1) := by decide +kernel
theorem dX10_isRobot_0 : decode cX10_isRobot 0 = .ok (.iload_n 1, 1) := by decide +kernel
theorem dX10_isRobot_1 : decode cX10_isRobot 1 = .ok (.iconst 0, 1) := by decide +kernel
theorem dX10_isRobot_2 : decode cX10_isRobot 2 = .ok (.aload_n 0, 1) := by decide +kernel
theorem dX10_isRobot_3 : decode cX10_isRobot 3 = .ok (.getfield 7, 3) := by decide +kernel
theorem dX10_isRobot_6 : decode cX10_isRobot 6 = .ok (.bipush 6, 2) := by decide +kernel
theorem dX10_isRobot_8 : decode cX10_isRobot 8 = .ok (.iaload, 1) := by decide +kernel
theorem dX10_isRobot_9 : decode cX10_isRobot 9 = .ok (.iconst 1, 1) := by decide +kernel
theorem dX10_isRobot_10 : decode cX10_isRobot 10 = .ok (.isub, 1) := by decide +kernel
theorem dX10_isRobot_11 : decode cX10_isRobot 11 = .ok (.invokestatic 54, 3) := by decide +kernel
theorem dX10_isRobot_14 : decode cX10_isRobot 14 = .ok (.ireturn, 1) := by decide +kernel
theorem dX10_isTask_0 : decode cX10_isTask 0 = .ok (.iload_n 1, 1) := by decide +kernel
theorem dX10_isTask_1 : decode cX10_isTask 1 = .ok (.iconst 0, 1) := by decide +kernel
theorem dX10_isTask_2 : decode cX10_isTask 2 = .ok (.aload_n 0, 1) := by decide +kernel
theorem dX10_isTask_3 : decode cX10_isTask 3 = .ok (.getfield 7, 3) := by decide +kernel
theorem dX10_isTask_6 : decode cX10_isTask 6 = .ok (.bipush 7, 2) := by decide +kernel
theorem dX10_isTask_8 : decode cX10_isTask 8 = .ok (.iaload, 1) := by decide +kernel
theorem dX10_isTask_9 : decode cX10_isTask 9 = .ok (.iconst 1, 1) := by decide +kernel
theorem dX10_isTask_10 : decode cX10_isTask 10 = .ok (.isub, 1) := by decide +kernel
theorem dX10_isTask_11 : decode cX10_isTask 11 = .ok (.invokestatic 54, 3) := by decide +kernel
theorem dX10_isTask_14 : decode cX10_isTask 14 = .ok (.ireturn, 1) := by decide +kernel
theorem dX10_of_0 : decode cX10_of 0 = .ok (.aload_n 0, 1) := by decide +kernel
theorem dX10_of_1 : decode cX10_of 1 = .ok (.getfield 7, 3) := by decide +kernel
theorem dX10_of_4 : decode cX10_of 4 = .ok (.bipush 88, 2) := by decide +kernel
theorem dX10_of_6 : decode cX10_of 6 = .ok (.bipush 42, 2) := by decide +kernel
theorem dX10_of_8 : decode cX10_of 8 = .ok (.iload_n 1, 1) := by decide +kernel
theorem dX10_of_9 : decode cX10_of 9 = .ok (.imul, 1) := by decide +kernel
theorem dX10_of_10 : decode cX10_of 10 = .ok (.iadd, 1) := by decide +kernel
theorem dX10_of_11 : decode cX10_of 11 = .ok (.iload_n 2, 1) := by decide +kernel
theorem dX10_of_12 : decode cX10_of 12 = .ok (.iadd, 1) := by decide +kernel
theorem dX10_of_13 : decode cX10_of 13 = .ok (.iaload, 1) := by decide +kernel
theorem dX10_of_14 : decode cX10_of 14 = .ok (.ireturn, 1) := by decide +kernel
theorem dX10_put_0 : decode cX10_put 0 = .ok (.aload_n 0, 1) := by decide +kernel
theorem dX10_put_1 : decode cX10_put 1 = .ok (.getfield 7, 3) := by decide +kernel
theorem dX10_put_4 : decode cX10_put 4 = .ok (.bipush 88, 2) := by decide +kernel
theorem dX10_put_6 : decode cX10_put 6 = .ok (.bipush 42, 2) := by decide +kernel
theorem dX10_put_8 : decode cX10_put 8 = .ok (.iload_n 1, 1) := by decide +kernel
theorem dX10_put_9 : decode cX10_put 9 = .ok (.imul, 1) := by decide +kernel
theorem dX10_put_10 : decode cX10_put 10 = .ok (.iadd, 1) := by decide +kernel
theorem dX10_put_11 : decode cX10_put 11 = .ok (.iload_n 2, 1) := by decide +kernel
theorem dX10_put_12 : decode cX10_put 12 = .ok (.iadd, 1) := by decide +kernel
theorem dX10_put_13 : decode cX10_put 13 = .ok (.iload_n 3, 1) := by decide +kernel
theorem dX10_put_14 : decode cX10_put 14 = .ok (.iastore, 1) := by decide +kernel
theorem dX10_put_15 : decode cX10_put 15 = .ok (.return_, 1) := by decide +kernel
theorem dX10_adds_0 : decode cX10_adds 0 = .ok (.aload_n 0, 1) := by decide +kernel
theorem dX10_adds_1 : decode cX10_adds 1 = .ok (.getfield 7, 3) := by decide +kernel
theorem dX10_adds_4 : decode cX10_adds 4 = .ok (.bipush 88, 2) := by decide +kernel
theorem dX10_adds_6 : decode cX10_adds 6 = .ok (.bipush 42, 2) := by decide +kernel
theorem dX10_adds_8 : decode cX10_adds 8 = .ok (.iload_n 1, 1) := by decide +kernel
theorem dX10_adds_9 : decode cX10_adds 9 = .ok (.imul, 1) := by decide +kernel
theorem dX10_adds_10 : decode cX10_adds 10 = .ok (.iadd, 1) := by decide +kernel
theorem dX10_adds_11 : decode cX10_adds 11 = .ok (.iload_n 2, 1) := by decide +kernel
theorem dX10_adds_12 : decode cX10_adds 12 = .ok (.iadd, 1) := by decide +kernel
theorem dX10_adds_13 : decode cX10_adds 13 = .ok (.dup2, 1) := by decide +kernel
theorem dX10_adds_14 : decode cX10_adds 14 = .ok (.iaload, 1) := by decide +kernel
theorem dX10_adds_15 : decode cX10_adds 15 = .ok (.iload_n 3, 1) := by decide +kernel
theorem dX10_adds_16 : decode cX10_adds 16 = .ok (.iadd, 1) := by decide +kernel
theorem dX10_adds_17 : decode cX10_adds 17 = .ok (.iastore, 1) := by decide +kernel
theorem dX10_adds_18 : decode cX10_adds 18 = .ok (.return_, 1) := by decide +kernel
theorem dX10_item_0 : decode cX10_item 0 = .ok (.aload_n 0, 1) := by decide +kernel
theorem dX10_item_1 : decode cX10_item 1 = .ok (.getfield 7, 3) := by decide +kernel
theorem dX10_item_4 : decode cX10_item 4 = .ok (.sipush 298, 3) := by decide +kernel
theorem dX10_item_7 : decode cX10_item 7 = .ok (.bipush 9, 2) := by decide +kernel
theorem dX10_item_9 : decode cX10_item 9 = .ok (.iload_n 1, 1) := by decide +kernel
theorem dX10_item_10 : decode cX10_item 10 = .ok (.imul, 1) := by decide +kernel
theorem dX10_item_11 : decode cX10_item 11 = .ok (.iadd, 1) := by decide +kernel
theorem dX10_item_12 : decode cX10_item 12 = .ok (.iload_n 2, 1) := by decide +kernel
theorem dX10_item_13 : decode cX10_item 13 = .ok (.iadd, 1) := by decide +kernel
theorem dX10_item_14 : decode cX10_item 14 = .ok (.iaload, 1) := by decide +kernel
theorem dX10_item_15 : decode cX10_item 15 = .ok (.ireturn, 1) := by decide +kernel
theorem dX10_set_0 : decode cX10_set 0 = .ok (.aload_n 0, 1) := by decide +kernel
theorem dX10_set_1 : decode cX10_set 1 = .ok (.getfield 7, 3) := by decide +kernel
theorem dX10_set_4 : decode cX10_set 4 = .ok (.sipush 298, 3) := by decide +kernel
theorem dX10_set_7 : decode cX10_set 7 = .ok (.bipush 9, 2) := by decide +kernel
theorem dX10_set_9 : decode cX10_set 9 = .ok (.iload_n 1, 1) := by decide +kernel
theorem dX10_set_10 : decode cX10_set 10 = .ok (.imul, 1) := by decide +kernel
theorem dX10_set_11 : decode cX10_set 11 = .ok (.iadd, 1) := by decide +kernel
theorem dX10_set_12 : decode cX10_set 12 = .ok (.iload_n 2, 1) := by decide +kernel
theorem dX10_set_13 : decode cX10_set 13 = .ok (.iadd, 1) := by decide +kernel
theorem dX10_set_14 : decode cX10_set 14 = .ok (.iload_n 3, 1) := by decide +kernel
theorem dX10_set_15 : decode cX10_set 15 = .ok (.iastore, 1) := by decide +kernel
theorem dX10_set_16 : decode cX10_set 16 = .ok (.return_, 1) := by decide +kernel
theorem dX10_act_0 : decode cX10_act 0 = .ok (.aload_n 0, 1) := by decide +kernel
theorem dX10_act_1 : decode cX10_act 1 = .ok (.iload_n 1, 1) := by decide +kernel
theorem dX10_act_2 : decode cX10_act 2 = .ok (.bipush 11, 2) := by decide +kernel
theorem dX10_act_4 : decode cX10_act 4 = .ok (.iload_n 2, 1) := by decide +kernel
theorem dX10_act_5 : decode cX10_act 5 = .ok (.iadd, 1) := by decide +kernel
theorem dX10_act_6 : decode cX10_act 6 = .ok (.invokevirtual 58, 3) := by decide +kernel
theorem dX10_act_9 : decode cX10_act 9 = .ok (.ireturn, 1) := by decide +kernel
theorem dX10_isInLift_0 : decode cX10_isInLift 0 = .ok (.aload_n 0, 1) := by decide +kernel
theorem dX10_isInLift_1 : decode cX10_isInLift 1 = .ok (.iload_n 1, 1) := by decide +kernel
theorem dX10_isInLift_2 : decode cX10_isInLift 2 = .ok (.iconst 3, 1) := by decide +kernel
theorem dX10_isInLift_3 : decode cX10_isInLift 3 = .ok (.invokevirtual 58, 3) := by decide +kernel
theorem dX10_isInLift_6 : decode cX10_isInLift 6 = .ok (.ifCond .le 7, 3) := by decide +kernel
theorem dX10_isInLift_9 : decode cX10_isInLift 9 = .ok (.iconst 1, 1) := by decide +kernel
theorem dX10_isInLift_10 : decode cX10_isInLift 10 = .ok (.goto 4, 3) := by decide +kernel
theorem dX10_isInLift_13 : decode cX10_isInLift 13 = .ok (.iconst 0, 1) := by decide +kernel
theorem dX10_isInLift_14 : decode cX10_isInLift 14 = .ok (.ireturn, 1) := by decide +kernel
theorem dX10_isWall_0 : decode cX10_isWall 0 = .ok (.aload_n 0, 1) := by decide +kernel
theorem dX10_isWall_1 : decode cX10_isWall 1 = .ok (.getfield 7, 3) := by decide +kernel
theorem dX10_isWall_4 : decode cX10_isWall 4 = .ok (.bipush 8, 2) := by decide +kernel
theorem dX10_isWall_6 : decode cX10_isWall 6 = .ok (.iload_n 1, 1) := by decide +kernel
theorem dX10_isWall_7 : decode cX10_isWall 7 = .ok (.iadd, 1) := by decide +kernel
theorem dX10_isWall_8 : decode cX10_isWall 8 = .ok (.iaload, 1) := by decide +kernel
theorem dX10_isWall_9 : decode cX10_isWall 9 = .ok (.iconst 1, 1) := by decide +kernel
theorem dX10_isWall_10 : decode cX10_isWall 10 = .ok (.if_icmp .ne 7, 3) := by decide +kernel
theorem dX10_isWall_13 : decode cX10_isWall 13 = .ok (.iconst 1, 1) := by decide +kernel
theorem dX10_isWall_14 : decode cX10_isWall 14 = .ok (.goto 4, 3) := by decide +kernel
theorem dX10_isWall_17 : decode cX10_isWall 17 = .ok (.iconst 0, 1) := by decide +kernel
theorem dX10_isWall_18 : decode cX10_isWall 18 = .ok (.ireturn, 1) := by decide +kernel
theorem dX10_moved_0 : decode cX10_moved 0 = .ok (.iload_n 1, 1) := by decide +kernel
theorem dX10_moved_1 : decode cX10_moved 1 = .ok (.bipush 8, 2) := by decide +kernel
theorem dX10_moved_3 : decode cX10_moved 3 = .ok (.irem, 1) := by decide +kernel
theorem dX10_moved_4 : decode cX10_moved 4 = .ok (.istore_n 3, 1) := by decide +kernel
theorem dX10_moved_5 : decode cX10_moved 5 = .ok (.iload_n 1, 1) := by decide +kernel
theorem dX10_moved_6 : decode cX10_moved 6 = .ok (.bipush 8, 2) := by decide +kernel
theorem dX10_moved_8 : decode cX10_moved 8 = .ok (.idiv, 1) := by decide +kernel
theorem dX10_moved_9 : decode cX10_moved 9 = .ok (.istore 4, 2) := by decide +kernel
theorem dX10_moved_11 : decode cX10_moved 11 = .ok (.iload_n 2, 1) := by decide +kernel
theorem dX10_moved_12 : decode cX10_moved 12 = .ok (.tableswitch 96 0 4 #[36, 38, 52, 66, 84], 36) := by decide +kernel
theorem dX10_moved_48 : decode cX10_moved 48 = .ok (.iload_n 1, 1) := by decide +kernel
theorem dX10_moved_49 : decode cX10_moved 49 = .ok (.ireturn, 1) := by decide +kernel
theorem dX10_moved_50 : decode cX10_moved 50 = .ok (.iload 4, 2) := by decide +kernel
theorem dX10_moved_52 : decode cX10_moved 52 = .ok (.ifCond .le 10, 3) := by decide +kernel
theorem dX10_moved_55 : decode cX10_moved 55 = .ok (.iload_n 1, 1) := by decide +kernel
theorem dX10_moved_56 : decode cX10_moved 56 = .ok (.bipush 8, 2) := by decide +kernel
theorem dX10_moved_58 : decode cX10_moved 58 = .ok (.isub, 1) := by decide +kernel
theorem dX10_moved_59 : decode cX10_moved 59 = .ok (.goto 4, 3) := by decide +kernel
theorem dX10_moved_62 : decode cX10_moved 62 = .ok (.iconst (-1), 1) := by decide +kernel
theorem dX10_moved_63 : decode cX10_moved 63 = .ok (.ireturn, 1) := by decide +kernel
theorem dX10_moved_64 : decode cX10_moved 64 = .ok (.iload_n 3, 1) := by decide +kernel
theorem dX10_moved_65 : decode cX10_moved 65 = .ok (.bipush 7, 2) := by decide +kernel
theorem dX10_moved_67 : decode cX10_moved 67 = .ok (.if_icmp .ge 9, 3) := by decide +kernel
theorem dX10_moved_70 : decode cX10_moved 70 = .ok (.iload_n 1, 1) := by decide +kernel
theorem dX10_moved_71 : decode cX10_moved 71 = .ok (.iconst 1, 1) := by decide +kernel
theorem dX10_moved_72 : decode cX10_moved 72 = .ok (.iadd, 1) := by decide +kernel
theorem dX10_moved_73 : decode cX10_moved 73 = .ok (.goto 4, 3) := by decide +kernel
theorem dX10_moved_76 : decode cX10_moved 76 = .ok (.iconst (-1), 1) := by decide +kernel
theorem dX10_moved_77 : decode cX10_moved 77 = .ok (.ireturn, 1) := by decide +kernel
theorem dX10_moved_78 : decode cX10_moved 78 = .ok (.iload_n 1, 1) := by decide +kernel
theorem dX10_moved_79 : decode cX10_moved 79 = .ok (.bipush 8, 2) := by decide +kernel
theorem dX10_moved_81 : decode cX10_moved 81 = .ok (.iadd, 1) := by decide +kernel
theorem dX10_moved_82 : decode cX10_moved 82 = .ok (.bipush 40, 2) := by decide +kernel
theorem dX10_moved_84 : decode cX10_moved 84 = .ok (.if_icmp .ge 10, 3) := by decide +kernel
theorem dX10_moved_87 : decode cX10_moved 87 = .ok (.iload_n 1, 1) := by decide +kernel
theorem dX10_moved_88 : decode cX10_moved 88 = .ok (.bipush 8, 2) := by decide +kernel
theorem dX10_moved_90 : decode cX10_moved 90 = .ok (.iadd, 1) := by decide +kernel
theorem dX10_moved_91 : decode cX10_moved 91 = .ok (.goto 4, 3) := by decide +kernel
theorem dX10_moved_94 : decode cX10_moved 94 = .ok (.iconst (-1), 1) := by decide +kernel
theorem dX10_moved_95 : decode cX10_moved 95 = .ok (.ireturn, 1) := by decide +kernel
theorem dX10_moved_96 : decode cX10_moved 96 = .ok (.iload_n 3, 1) := by decide +kernel
theorem dX10_moved_97 : decode cX10_moved 97 = .ok (.ifCond .le 9, 3) := by decide +kernel
theorem dX10_moved_100 : decode cX10_moved 100 = .ok (.iload_n 1, 1) := by decide +kernel
theorem dX10_moved_101 : decode cX10_moved 101 = .ok (.iconst 1, 1) := by decide +kernel
theorem dX10_moved_102 : decode cX10_moved 102 = .ok (.isub, 1) := by decide +kernel
theorem dX10_moved_103 : decode cX10_moved 103 = .ok (.goto 4, 3) := by decide +kernel
theorem dX10_moved_106 : decode cX10_moved 106 = .ok (.iconst (-1), 1) := by decide +kernel
theorem dX10_moved_107 : decode cX10_moved 107 = .ok (.ireturn, 1) := by decide +kernel
theorem dX10_moved_108 : decode cX10_moved 108 = .ok (.aload_n 0, 1) := by decide +kernel
theorem dX10_moved_109 : decode cX10_moved 109 = .ok (.iload_n 1, 1) := by decide +kernel
theorem dX10_moved_110 : decode cX10_moved 110 = .ok (.iload_n 2, 1) := by decide +kernel
theorem dX10_moved_111 : decode cX10_moved 111 = .ok (.iconst 5, 1) := by decide +kernel
theorem dX10_moved_112 : decode cX10_moved 112 = .ok (.isub, 1) := by decide +kernel
theorem dX10_moved_113 : decode cX10_moved 113 = .ok (.invokevirtual 62, 3) := by decide +kernel
theorem dX10_moved_116 : decode cX10_moved 116 = .ok (.ireturn, 1) := by decide +kernel
theorem dX10_ridden_0 : decode cX10_ridden 0 = .ok (.iload_n 2, 1) := by decide +kernel
theorem dX10_ridden_1 : decode cX10_ridden 1 = .ok (.aload_n 0, 1) := by decide +kernel
theorem dX10_ridden_2 : decode cX10_ridden 2 = .ok (.getfield 7, 3) := by decide +kernel
theorem dX10_ridden_5 : decode cX10_ridden 5 = .ok (.iconst 1, 1) := by decide +kernel
theorem dX10_ridden_6 : decode cX10_ridden 6 = .ok (.iaload, 1) := by decide +kernel
theorem dX10_ridden_7 : decode cX10_ridden 7 = .ok (.if_icmp .lt 5, 3) := by decide +kernel
theorem dX10_ridden_10 : decode cX10_ridden 10 = .ok (.iconst (-1), 1) := by decide +kernel
theorem dX10_ridden_11 : decode cX10_ridden 11 = .ok (.ireturn, 1) := by decide +kernel
theorem dX10_ridden_12 : decode cX10_ridden 12 = .ok (.aload_n 0, 1) := by decide +kernel
theorem dX10_ridden_13 : decode cX10_ridden 13 = .ok (.getfield 7, 3) := by decide +kernel
theorem dX10_ridden_16 : decode cX10_ridden 16 = .ok (.iconst 2, 1) := by decide +kernel
theorem dX10_ridden_17 : decode cX10_ridden 17 = .ok (.iconst 2, 1) := by decide +kernel
theorem dX10_ridden_18 : decode cX10_ridden 18 = .ok (.iload_n 2, 1) := by decide +kernel
theorem dX10_ridden_19 : decode cX10_ridden 19 = .ok (.imul, 1) := by decide +kernel
theorem dX10_ridden_20 : decode cX10_ridden 20 = .ok (.iadd, 1) := by decide +kernel
theorem dX10_ridden_21 : decode cX10_ridden 21 = .ok (.iaload, 1) := by decide +kernel
theorem dX10_ridden_22 : decode cX10_ridden 22 = .ok (.iload_n 1, 1) := by decide +kernel
theorem dX10_ridden_23 : decode cX10_ridden 23 = .ok (.if_icmp .ne 18, 3) := by decide +kernel
theorem dX10_ridden_26 : decode cX10_ridden 26 = .ok (.aload_n 0, 1) := by decide +kernel
theorem dX10_ridden_27 : decode cX10_ridden 27 = .ok (.getfield 7, 3) := by decide +kernel
theorem dX10_ridden_30 : decode cX10_ridden 30 = .ok (.iconst 2, 1) := by decide +kernel
theorem dX10_ridden_31 : decode cX10_ridden 31 = .ok (.iconst 2, 1) := by decide +kernel
theorem dX10_ridden_32 : decode cX10_ridden 32 = .ok (.iload_n 2, 1) := by decide +kernel
theorem dX10_ridden_33 : decode cX10_ridden 33 = .ok (.imul, 1) := by decide +kernel
theorem dX10_ridden_34 : decode cX10_ridden 34 = .ok (.iadd, 1) := by decide +kernel
theorem dX10_ridden_35 : decode cX10_ridden 35 = .ok (.iconst 1, 1) := by decide +kernel
theorem dX10_ridden_36 : decode cX10_ridden 36 = .ok (.iadd, 1) := by decide +kernel
theorem dX10_ridden_37 : decode cX10_ridden 37 = .ok (.iaload, 1) := by decide +kernel
theorem dX10_ridden_38 : decode cX10_ridden 38 = .ok (.goto 33, 3) := by decide +kernel
theorem dX10_ridden_41 : decode cX10_ridden 41 = .ok (.aload_n 0, 1) := by decide +kernel
theorem dX10_ridden_42 : decode cX10_ridden 42 = .ok (.getfield 7, 3) := by decide +kernel
theorem dX10_ridden_45 : decode cX10_ridden 45 = .ok (.iconst 2, 1) := by decide +kernel
theorem dX10_ridden_46 : decode cX10_ridden 46 = .ok (.iconst 2, 1) := by decide +kernel
theorem dX10_ridden_47 : decode cX10_ridden 47 = .ok (.iload_n 2, 1) := by decide +kernel
theorem dX10_ridden_48 : decode cX10_ridden 48 = .ok (.imul, 1) := by decide +kernel
theorem dX10_ridden_49 : decode cX10_ridden 49 = .ok (.iadd, 1) := by decide +kernel
theorem dX10_ridden_50 : decode cX10_ridden 50 = .ok (.iconst 1, 1) := by decide +kernel
theorem dX10_ridden_51 : decode cX10_ridden 51 = .ok (.iadd, 1) := by decide +kernel
theorem dX10_ridden_52 : decode cX10_ridden 52 = .ok (.iaload, 1) := by decide +kernel
theorem dX10_ridden_53 : decode cX10_ridden 53 = .ok (.iload_n 1, 1) := by decide +kernel
theorem dX10_ridden_54 : decode cX10_ridden 54 = .ok (.if_icmp .ne 16, 3) := by decide +kernel
theorem dX10_ridden_57 : decode cX10_ridden 57 = .ok (.aload_n 0, 1) := by decide +kernel
theorem dX10_ridden_58 : decode cX10_ridden 58 = .ok (.getfield 7, 3) := by decide +kernel
theorem dX10_ridden_61 : decode cX10_ridden 61 = .ok (.iconst 2, 1) := by decide +kernel
theorem dX10_ridden_62 : decode cX10_ridden 62 = .ok (.iconst 2, 1) := by decide +kernel
theorem dX10_ridden_63 : decode cX10_ridden 63 = .ok (.iload_n 2, 1) := by decide +kernel
theorem dX10_ridden_64 : decode cX10_ridden 64 = .ok (.imul, 1) := by decide +kernel
theorem dX10_ridden_65 : decode cX10_ridden 65 = .ok (.iadd, 1) := by decide +kernel
theorem dX10_ridden_66 : decode cX10_ridden 66 = .ok (.iaload, 1) := by decide +kernel
theorem dX10_ridden_67 : decode cX10_ridden 67 = .ok (.goto 4, 3) := by decide +kernel
theorem dX10_ridden_70 : decode cX10_ridden 70 = .ok (.iconst (-1), 1) := by decide +kernel
theorem dX10_ridden_71 : decode cX10_ridden 71 = .ok (.ireturn, 1) := by decide +kernel
theorem dX10_takes_0 : decode cX10_takes 0 = .ok (.iload_n 0, 1) := by decide +kernel
theorem dX10_takes_1 : decode cX10_takes 1 = .ok (.iconst 5, 1) := by decide +kernel
theorem dX10_takes_2 : decode cX10_takes 2 = .ok (.if_icmp .lt 7, 3) := by decide +kernel
theorem dX10_takes_5 : decode cX10_takes 5 = .ok (.iconst 3, 1) := by decide +kernel
theorem dX10_takes_6 : decode cX10_takes 6 = .ok (.goto 4, 3) := by decide +kernel
theorem dX10_takes_9 : decode cX10_takes 9 = .ok (.iconst 1, 1) := by decide +kernel
theorem dX10_takes_10 : decode cX10_takes 10 = .ok (.ireturn, 1) := by decide +kernel
theorem dX10_costs_0 : decode cX10_costs 0 = .ok (.iload_n 0, 1) := by decide +kernel
theorem dX10_costs_1 : decode cX10_costs 1 = .ok (.ifCond .ne 7, 3) := by decide +kernel
theorem dX10_costs_4 : decode cX10_costs 4 = .ok (.iconst 0, 1) := by decide +kernel
theorem dX10_costs_5 : decode cX10_costs 5 = .ok (.goto 13, 3) := by decide +kernel
theorem dX10_costs_8 : decode cX10_costs 8 = .ok (.iload_n 0, 1) := by decide +kernel
theorem dX10_costs_9 : decode cX10_costs 9 = .ok (.iconst 5, 1) := by decide +kernel
theorem dX10_costs_10 : decode cX10_costs 10 = .ok (.if_icmp .lt 7, 3) := by decide +kernel
theorem dX10_costs_13 : decode cX10_costs 13 = .ok (.iconst 2, 1) := by decide +kernel
theorem dX10_costs_14 : decode cX10_costs 14 = .ok (.goto 4, 3) := by decide +kernel
theorem dX10_costs_17 : decode cX10_costs 17 = .ok (.iconst 1, 1) := by decide +kernel
theorem dX10_costs_18 : decode cX10_costs 18 = .ok (.ireturn, 1) := by decide +kernel
theorem dX10_isEnd_0 : decode cX10_isEnd 0 = .ok (.iconst 0, 1) := by decide +kernel
theorem dX10_isEnd_1 : decode cX10_isEnd 1 = .ok (.istore_n 2, 1) := by decide +kernel
theorem dX10_isEnd_2 : decode cX10_isEnd 2 = .ok (.iconst 0, 1) := by decide +kernel
theorem dX10_isEnd_3 : decode cX10_isEnd 3 = .ok (.istore_n 3, 1) := by decide +kernel
theorem dX10_isEnd_4 : decode cX10_isEnd 4 = .ok (.iload_n 3, 1) := by decide +kernel
theorem dX10_isEnd_5 : decode cX10_isEnd 5 = .ok (.iconst 2, 1) := by decide +kernel
theorem dX10_isEnd_6 : decode cX10_isEnd 6 = .ok (.aload_n 0, 1) := by decide +kernel
theorem dX10_isEnd_7 : decode cX10_isEnd 7 = .ok (.getfield 7, 3) := by decide +kernel
theorem dX10_isEnd_10 : decode cX10_isEnd 10 = .ok (.iconst 1, 1) := by decide +kernel
theorem dX10_isEnd_11 : decode cX10_isEnd 11 = .ok (.iaload, 1) := by decide +kernel
theorem dX10_isEnd_12 : decode cX10_isEnd 12 = .ok (.imul, 1) := by decide +kernel
theorem dX10_isEnd_13 : decode cX10_isEnd 13 = .ok (.if_icmp .ge 31, 3) := by decide +kernel
theorem dX10_isEnd_16 : decode cX10_isEnd 16 = .ok (.iload_n 2, 1) := by decide +kernel
theorem dX10_isEnd_17 : decode cX10_isEnd 17 = .ok (.ifCond .ne 15, 3) := by decide +kernel
theorem dX10_isEnd_20 : decode cX10_isEnd 20 = .ok (.aload_n 0, 1) := by decide +kernel
theorem dX10_isEnd_21 : decode cX10_isEnd 21 = .ok (.getfield 7, 3) := by decide +kernel
theorem dX10_isEnd_24 : decode cX10_isEnd 24 = .ok (.iconst 2, 1) := by decide +kernel
theorem dX10_isEnd_25 : decode cX10_isEnd 25 = .ok (.iload_n 3, 1) := by decide +kernel
theorem dX10_isEnd_26 : decode cX10_isEnd 26 = .ok (.iadd, 1) := by decide +kernel
theorem dX10_isEnd_27 : decode cX10_isEnd 27 = .ok (.iaload, 1) := by decide +kernel
theorem dX10_isEnd_28 : decode cX10_isEnd 28 = .ok (.iload_n 1, 1) := by decide +kernel
theorem dX10_isEnd_29 : decode cX10_isEnd 29 = .ok (.if_icmp .ne 7, 3) := by decide +kernel
theorem dX10_isEnd_32 : decode cX10_isEnd 32 = .ok (.iconst 1, 1) := by decide +kernel
theorem dX10_isEnd_33 : decode cX10_isEnd 33 = .ok (.goto 4, 3) := by decide +kernel
theorem dX10_isEnd_36 : decode cX10_isEnd 36 = .ok (.iconst 0, 1) := by decide +kernel
theorem dX10_isEnd_37 : decode cX10_isEnd 37 = .ok (.istore_n 2, 1) := by decide +kernel
theorem dX10_isEnd_38 : decode cX10_isEnd 38 = .ok (.iinc 3 1, 3) := by decide +kernel
theorem dX10_isEnd_41 : decode cX10_isEnd 41 = .ok (.goto (-37), 3) := by decide +kernel
theorem dX10_isEnd_44 : decode cX10_isEnd 44 = .ok (.iload_n 2, 1) := by decide +kernel
theorem dX10_isEnd_45 : decode cX10_isEnd 45 = .ok (.ireturn, 1) := by decide +kernel
theorem dX10_foresees_0 : decode cX10_foresees 0 = .ok (.aload_n 0, 1) := by decide +kernel
theorem dX10_foresees_1 : decode cX10_foresees 1 = .ok (.iload_n 1, 1) := by decide +kernel
theorem dX10_foresees_2 : decode cX10_foresees 2 = .ok (.iconst 0, 1) := by decide +kernel
theorem dX10_foresees_3 : decode cX10_foresees 3 = .ok (.invokevirtual 58, 3) := by decide +kernel
theorem dX10_foresees_6 : decode cX10_foresees 6 = .ok (.istore_n 2, 1) := by decide +kernel
theorem dX10_foresees_7 : decode cX10_foresees 7 = .ok (.iconst 0, 1) := by decide +kernel
theorem dX10_foresees_8 : decode cX10_foresees 8 = .ok (.istore_n 3, 1) := by decide +kernel
theorem dX10_foresees_9 : decode cX10_foresees 9 = .ok (.aload_n 0, 1) := by decide +kernel
theorem dX10_foresees_10 : decode cX10_foresees 10 = .ok (.iload_n 1, 1) := by decide +kernel
theorem dX10_foresees_11 : decode cX10_foresees 11 = .ok (.iconst 3, 1) := by decide +kernel
theorem dX10_foresees_12 : decode cX10_foresees 12 = .ok (.invokevirtual 58, 3) := by decide +kernel
theorem dX10_foresees_15 : decode cX10_foresees 15 = .ok (.istore 4, 2) := by decide +kernel
theorem dX10_foresees_17 : decode cX10_foresees 17 = .ok (.iconst 0, 1) := by decide +kernel
theorem dX10_foresees_18 : decode cX10_foresees 18 = .ok (.istore 5, 2) := by decide +kernel
theorem dX10_foresees_20 : decode cX10_foresees 20 = .ok (.iload 5, 2) := by decide +kernel
theorem dX10_foresees_22 : decode cX10_foresees 22 = .ok (.bipush 31, 2) := by decide +kernel
theorem dX10_foresees_24 : decode cX10_foresees 24 = .ok (.if_icmp .ge 109, 3) := by decide +kernel
theorem dX10_foresees_27 : decode cX10_foresees 27 = .ok (.iload_n 3, 1) := by decide +kernel
theorem dX10_foresees_28 : decode cX10_foresees 28 = .ok (.aload_n 0, 1) := by decide +kernel
theorem dX10_foresees_29 : decode cX10_foresees 29 = .ok (.iload_n 1, 1) := by decide +kernel
theorem dX10_foresees_30 : decode cX10_foresees 30 = .ok (.iconst 2, 1) := by decide +kernel
theorem dX10_foresees_31 : decode cX10_foresees 31 = .ok (.invokevirtual 58, 3) := by decide +kernel
theorem dX10_foresees_34 : decode cX10_foresees 34 = .ok (.if_icmp .ge 12, 3) := by decide +kernel
theorem dX10_foresees_37 : decode cX10_foresees 37 = .ok (.aload_n 0, 1) := by decide +kernel
theorem dX10_foresees_38 : decode cX10_foresees 38 = .ok (.iload_n 1, 1) := by decide +kernel
theorem dX10_foresees_39 : decode cX10_foresees 39 = .ok (.iload_n 3, 1) := by decide +kernel
theorem dX10_foresees_40 : decode cX10_foresees 40 = .ok (.invokevirtual 65, 3) := by decide +kernel
theorem dX10_foresees_43 : decode cX10_foresees 43 = .ok (.goto 4, 3) := by decide +kernel
theorem dX10_foresees_46 : decode cX10_foresees 46 = .ok (.iconst 0, 1) := by decide +kernel
theorem dX10_foresees_47 : decode cX10_foresees 47 = .ok (.istore 6, 2) := by decide +kernel
theorem dX10_foresees_49 : decode cX10_foresees 49 = .ok (.aload_n 0, 1) := by decide +kernel
theorem dX10_foresees_50 : decode cX10_foresees 50 = .ok (.getfield 29, 3) := by decide +kernel
theorem dX10_foresees_53 : decode cX10_foresees 53 = .ok (.bipush 31, 2) := by decide +kernel
theorem dX10_foresees_55 : decode cX10_foresees 55 = .ok (.iload_n 1, 1) := by decide +kernel
theorem dX10_foresees_56 : decode cX10_foresees 56 = .ok (.imul, 1) := by decide +kernel
theorem dX10_foresees_57 : decode cX10_foresees 57 = .ok (.iload 5, 2) := by decide +kernel
theorem dX10_foresees_59 : decode cX10_foresees 59 = .ok (.iadd, 1) := by decide +kernel
theorem dX10_foresees_60 : decode cX10_foresees 60 = .ok (.iload 4, 2) := by decide +kernel
theorem dX10_foresees_62 : decode cX10_foresees 62 = .ok (.ifCond .le 10, 3) := by decide +kernel
theorem dX10_foresees_65 : decode cX10_foresees 65 = .ok (.iconst 4, 1) := by decide +kernel
theorem dX10_foresees_66 : decode cX10_foresees 66 = .ok (.iload 6, 2) := by decide +kernel
theorem dX10_foresees_68 : decode cX10_foresees 68 = .ok (.isub, 1) := by decide +kernel
theorem dX10_foresees_69 : decode cX10_foresees 69 = .ok (.goto 4, 3) := by decide +kernel
theorem dX10_foresees_72 : decode cX10_foresees 72 = .ok (.iload_n 2, 1) := by decide +kernel
theorem dX10_foresees_73 : decode cX10_foresees 73 = .ok (.iastore, 1) := by decide +kernel
theorem dX10_foresees_74 : decode cX10_foresees 74 = .ok (.aload_n 0, 1) := by decide +kernel
theorem dX10_foresees_75 : decode cX10_foresees 75 = .ok (.getfield 32, 3) := by decide +kernel
theorem dX10_foresees_78 : decode cX10_foresees 78 = .ok (.bipush 31, 2) := by decide +kernel
theorem dX10_foresees_80 : decode cX10_foresees 80 = .ok (.iload_n 1, 1) := by decide +kernel
theorem dX10_foresees_81 : decode cX10_foresees 81 = .ok (.imul, 1) := by decide +kernel
theorem dX10_foresees_82 : decode cX10_foresees 82 = .ok (.iload 5, 2) := by decide +kernel
theorem dX10_foresees_84 : decode cX10_foresees 84 = .ok (.iadd, 1) := by decide +kernel
theorem dX10_foresees_85 : decode cX10_foresees 85 = .ok (.iload 6, 2) := by decide +kernel
theorem dX10_foresees_87 : decode cX10_foresees 87 = .ok (.iconst 5, 1) := by decide +kernel
theorem dX10_foresees_88 : decode cX10_foresees 88 = .ok (.if_icmp .lt 10, 3) := by decide +kernel
theorem dX10_foresees_91 : decode cX10_foresees 91 = .ok (.iload 6, 2) := by decide +kernel
theorem dX10_foresees_93 : decode cX10_foresees 93 = .ok (.iconst 5, 1) := by decide +kernel
theorem dX10_foresees_94 : decode cX10_foresees 94 = .ok (.isub, 1) := by decide +kernel
theorem dX10_foresees_95 : decode cX10_foresees 95 = .ok (.goto 4, 3) := by decide +kernel
theorem dX10_foresees_98 : decode cX10_foresees 98 = .ok (.iconst (-1), 1) := by decide +kernel
theorem dX10_foresees_99 : decode cX10_foresees 99 = .ok (.iastore, 1) := by decide +kernel
theorem dX10_foresees_100 : decode cX10_foresees 100 = .ok (.iinc 4 1, 3) := by decide +kernel
theorem dX10_foresees_103 : decode cX10_foresees 103 = .ok (.iload 4, 2) := by decide +kernel
theorem dX10_foresees_105 : decode cX10_foresees 105 = .ok (.iload 6, 2) := by decide +kernel
theorem dX10_foresees_107 : decode cX10_foresees 107 = .ok (.invokestatic 68, 3) := by decide +kernel
theorem dX10_foresees_110 : decode cX10_foresees 110 = .ok (.if_icmp .ne 17, 3) := by decide +kernel
theorem dX10_foresees_113 : decode cX10_foresees 113 = .ok (.aload_n 0, 1) := by decide +kernel
theorem dX10_foresees_114 : decode cX10_foresees 114 = .ok (.iload_n 2, 1) := by decide +kernel
theorem dX10_foresees_115 : decode cX10_foresees 115 = .ok (.iload 6, 2) := by decide +kernel
theorem dX10_foresees_117 : decode cX10_foresees 117 = .ok (.invokevirtual 72, 3) := by decide +kernel
theorem dX10_foresees_120 : decode cX10_foresees 120 = .ok (.istore_n 2, 1) := by decide +kernel
theorem dX10_foresees_121 : decode cX10_foresees 121 = .ok (.iconst 0, 1) := by decide +kernel
theorem dX10_foresees_122 : decode cX10_foresees 122 = .ok (.istore 4, 2) := by decide +kernel
theorem dX10_foresees_124 : decode cX10_foresees 124 = .ok (.iinc 3 1, 3) := by decide +kernel
theorem dX10_foresees_127 : decode cX10_foresees 127 = .ok (.iinc 5 1, 3) := by decide +kernel
theorem dX10_foresees_130 : decode cX10_foresees 130 = .ok (.goto (-110), 3) := by decide +kernel
theorem dX10_foresees_133 : decode cX10_foresees 133 = .ok (.return_, 1) := by decide +kernel
theorem dX10_allForeseen_0 : decode cX10_allForeseen 0 = .ok (.iconst 0, 1) := by decide +kernel
theorem dX10_allForeseen_1 : decode cX10_allForeseen 1 = .ok (.istore_n 1, 1) := by decide +kernel
theorem dX10_allForeseen_2 : decode cX10_allForeseen 2 = .ok (.iload_n 1, 1) := by decide +kernel
theorem dX10_allForeseen_3 : decode cX10_allForeseen 3 = .ok (.aload_n 0, 1) := by decide +kernel
theorem dX10_allForeseen_4 : decode cX10_allForeseen 4 = .ok (.getfield 7, 3) := by decide +kernel
theorem dX10_allForeseen_7 : decode cX10_allForeseen 7 = .ok (.bipush 6, 2) := by decide +kernel
theorem dX10_allForeseen_9 : decode cX10_allForeseen 9 = .ok (.iaload, 1) := by decide +kernel
theorem dX10_allForeseen_10 : decode cX10_allForeseen 10 = .ok (.if_icmp .ge 14, 3) := by decide +kernel
theorem dX10_allForeseen_13 : decode cX10_allForeseen 13 = .ok (.aload_n 0, 1) := by decide +kernel
theorem dX10_allForeseen_14 : decode cX10_allForeseen 14 = .ok (.iload_n 1, 1) := by decide +kernel
theorem dX10_allForeseen_15 : decode cX10_allForeseen 15 = .ok (.invokevirtual 75, 3) := by decide +kernel
theorem dX10_allForeseen_18 : decode cX10_allForeseen 18 = .ok (.iinc 1 1, 3) := by decide +kernel
theorem dX10_allForeseen_21 : decode cX10_allForeseen 21 = .ok (.goto (-19), 3) := by decide +kernel
theorem dX10_allForeseen_24 : decode cX10_allForeseen 24 = .ok (.return_, 1) := by decide +kernel
theorem dX10_ticksLeft_0 : decode cX10_ticksLeft 0 = .ok (.aload_n 0, 1) := by decide +kernel
theorem dX10_ticksLeft_1 : decode cX10_ticksLeft 1 = .ok (.iload_n 1, 1) := by decide +kernel
theorem dX10_ticksLeft_2 : decode cX10_ticksLeft 2 = .ok (.iconst 3, 1) := by decide +kernel
theorem dX10_ticksLeft_3 : decode cX10_ticksLeft 3 = .ok (.invokevirtual 58, 3) := by decide +kernel
theorem dX10_ticksLeft_6 : decode cX10_ticksLeft 6 = .ok (.ineg, 1) := by decide +kernel
theorem dX10_ticksLeft_7 : decode cX10_ticksLeft 7 = .ok (.istore_n 2, 1) := by decide +kernel
theorem dX10_ticksLeft_8 : decode cX10_ticksLeft 8 = .ok (.iconst 0, 1) := by decide +kernel
theorem dX10_ticksLeft_9 : decode cX10_ticksLeft 9 = .ok (.istore_n 3, 1) := by decide +kernel
theorem dX10_ticksLeft_10 : decode cX10_ticksLeft 10 = .ok (.iload_n 3, 1) := by decide +kernel
theorem dX10_ticksLeft_11 : decode cX10_ticksLeft 11 = .ok (.aload_n 0, 1) := by decide +kernel
theorem dX10_ticksLeft_12 : decode cX10_ticksLeft 12 = .ok (.iload_n 1, 1) := by decide +kernel
theorem dX10_ticksLeft_13 : decode cX10_ticksLeft 13 = .ok (.iconst 2, 1) := by decide +kernel
theorem dX10_ticksLeft_14 : decode cX10_ticksLeft 14 = .ok (.invokevirtual 58, 3) := by decide +kernel
theorem dX10_ticksLeft_17 : decode cX10_ticksLeft 17 = .ok (.if_icmp .ge 21, 3) := by decide +kernel
theorem dX10_ticksLeft_20 : decode cX10_ticksLeft 20 = .ok (.iload_n 2, 1) := by decide +kernel
theorem dX10_ticksLeft_21 : decode cX10_ticksLeft 21 = .ok (.aload_n 0, 1) := by decide +kernel
theorem dX10_ticksLeft_22 : decode cX10_ticksLeft 22 = .ok (.iload_n 1, 1) := by decide +kernel
theorem dX10_ticksLeft_23 : decode cX10_ticksLeft 23 = .ok (.iload_n 3, 1) := by decide +kernel
theorem dX10_ticksLeft_24 : decode cX10_ticksLeft 24 = .ok (.invokevirtual 65, 3) := by decide +kernel
theorem dX10_ticksLeft_27 : decode cX10_ticksLeft 27 = .ok (.invokestatic 68, 3) := by decide +kernel
theorem dX10_ticksLeft_30 : decode cX10_ticksLeft 30 = .ok (.iadd, 1) := by decide +kernel
theorem dX10_ticksLeft_31 : decode cX10_ticksLeft 31 = .ok (.istore_n 2, 1) := by decide +kernel
theorem dX10_ticksLeft_32 : decode cX10_ticksLeft 32 = .ok (.iinc 3 1, 3) := by decide +kernel
theorem dX10_ticksLeft_35 : decode cX10_ticksLeft 35 = .ok (.goto (-25), 3) := by decide +kernel
theorem dX10_ticksLeft_38 : decode cX10_ticksLeft 38 = .ok (.iload_n 2, 1) := by decide +kernel
theorem dX10_ticksLeft_39 : decode cX10_ticksLeft 39 = .ok (.ireturn, 1) := by decide +kernel
theorem dX10_isFree_0 : decode cX10_isFree 0 = .ok (.aload_n 0, 1) := by decide +kernel
theorem dX10_isFree_1 : decode cX10_isFree 1 = .ok (.iload_n 2, 1) := by decide +kernel
theorem dX10_isFree_2 : decode cX10_isFree 2 = .ok (.invokevirtual 79, 3) := by decide +kernel
theorem dX10_isFree_5 : decode cX10_isFree 5 = .ok (.ifCond .ne 7, 3) := by decide +kernel
theorem dX10_isFree_8 : decode cX10_isFree 8 = .ok (.iconst 1, 1) := by decide +kernel
theorem dX10_isFree_9 : decode cX10_isFree 9 = .ok (.goto 4, 3) := by decide +kernel
theorem dX10_isFree_12 : decode cX10_isFree 12 = .ok (.iconst 0, 1) := by decide +kernel
theorem dX10_isFree_13 : decode cX10_isFree 13 = .ok (.istore 4, 2) := by decide +kernel
theorem dX10_isFree_15 : decode cX10_isFree 15 = .ok (.iconst 0, 1) := by decide +kernel
theorem dX10_isFree_16 : decode cX10_isFree 16 = .ok (.istore 5, 2) := by decide +kernel
theorem dX10_isFree_18 : decode cX10_isFree 18 = .ok (.iload 5, 2) := by decide +kernel
theorem dX10_isFree_20 : decode cX10_isFree 20 = .ok (.aload_n 0, 1) := by decide +kernel
theorem dX10_isFree_21 : decode cX10_isFree 21 = .ok (.getfield 7, 3) := by decide +kernel
theorem dX10_isFree_24 : decode cX10_isFree 24 = .ok (.bipush 6, 2) := by decide +kernel
theorem dX10_isFree_26 : decode cX10_isFree 26 = .ok (.iaload, 1) := by decide +kernel
theorem dX10_isFree_27 : decode cX10_isFree 27 = .ok (.if_icmp .ge 52, 3) := by decide +kernel
theorem dX10_isFree_30 : decode cX10_isFree 30 = .ok (.iload 4, 2) := by decide +kernel
theorem dX10_isFree_32 : decode cX10_isFree 32 = .ok (.ifCond .eq 38, 3) := by decide +kernel
theorem dX10_isFree_35 : decode cX10_isFree 35 = .ok (.iload 5, 2) := by decide +kernel
theorem dX10_isFree_37 : decode cX10_isFree 37 = .ok (.iload_n 1, 1) := by decide +kernel
theorem dX10_isFree_38 : decode cX10_isFree 38 = .ok (.if_icmp .eq 28, 3) := by decide +kernel
theorem dX10_isFree_41 : decode cX10_isFree 41 = .ok (.iload 5, 2) := by decide +kernel
theorem dX10_isFree_43 : decode cX10_isFree 43 = .ok (.aload_n 0, 1) := by decide +kernel
theorem dX10_isFree_44 : decode cX10_isFree 44 = .ok (.getfield 35, 3) := by decide +kernel
theorem dX10_isFree_47 : decode cX10_isFree 47 = .ok (.if_icmp .eq 19, 3) := by decide +kernel
theorem dX10_isFree_50 : decode cX10_isFree 50 = .ok (.aload_n 0, 1) := by decide +kernel
theorem dX10_isFree_51 : decode cX10_isFree 51 = .ok (.getfield 29, 3) := by decide +kernel
theorem dX10_isFree_54 : decode cX10_isFree 54 = .ok (.bipush 31, 2) := by decide +kernel
theorem dX10_isFree_56 : decode cX10_isFree 56 = .ok (.iload 5, 2) := by decide +kernel
theorem dX10_isFree_58 : decode cX10_isFree 58 = .ok (.imul, 1) := by decide +kernel
theorem dX10_isFree_59 : decode cX10_isFree 59 = .ok (.iload_n 3, 1) := by decide +kernel
theorem dX10_isFree_60 : decode cX10_isFree 60 = .ok (.iadd, 1) := by decide +kernel
theorem dX10_isFree_61 : decode cX10_isFree 61 = .ok (.iaload, 1) := by decide +kernel
theorem dX10_isFree_62 : decode cX10_isFree 62 = .ok (.iload_n 2, 1) := by decide +kernel
theorem dX10_isFree_63 : decode cX10_isFree 63 = .ok (.if_icmp .eq 7, 3) := by decide +kernel
theorem dX10_isFree_66 : decode cX10_isFree 66 = .ok (.iconst 1, 1) := by decide +kernel
theorem dX10_isFree_67 : decode cX10_isFree 67 = .ok (.goto 4, 3) := by decide +kernel
theorem dX10_isFree_70 : decode cX10_isFree 70 = .ok (.iconst 0, 1) := by decide +kernel
theorem dX10_isFree_71 : decode cX10_isFree 71 = .ok (.istore 4, 2) := by decide +kernel
theorem dX10_isFree_73 : decode cX10_isFree 73 = .ok (.iinc 5 1, 3) := by decide +kernel
theorem dX10_isFree_76 : decode cX10_isFree 76 = .ok (.goto (-58), 3) := by decide +kernel
theorem dX10_isFree_79 : decode cX10_isFree 79 = .ok (.iload 4, 2) := by decide +kernel
theorem dX10_isFree_81 : decode cX10_isFree 81 = .ok (.ireturn, 1) := by decide +kernel
theorem dX10_isSwap_0 : decode cX10_isSwap 0 = .ok (.iconst 0, 1) := by decide +kernel
theorem dX10_isSwap_1 : decode cX10_isSwap 1 = .ok (.istore 5, 2) := by decide +kernel
theorem dX10_isSwap_3 : decode cX10_isSwap 3 = .ok (.iconst 0, 1) := by decide +kernel
theorem dX10_isSwap_4 : decode cX10_isSwap 4 = .ok (.istore 6, 2) := by decide +kernel
theorem dX10_isSwap_6 : decode cX10_isSwap 6 = .ok (.iload 6, 2) := by decide +kernel
theorem dX10_isSwap_8 : decode cX10_isSwap 8 = .ok (.aload_n 0, 1) := by decide +kernel
theorem dX10_isSwap_9 : decode cX10_isSwap 9 = .ok (.getfield 7, 3) := by decide +kernel
theorem dX10_isSwap_12 : decode cX10_isSwap 12 = .ok (.bipush 6, 2) := by decide +kernel
theorem dX10_isSwap_14 : decode cX10_isSwap 14 = .ok (.iaload, 1) := by decide +kernel
theorem dX10_isSwap_15 : decode cX10_isSwap 15 = .ok (.if_icmp .ge 72, 3) := by decide +kernel
theorem dX10_isSwap_18 : decode cX10_isSwap 18 = .ok (.iload 5, 2) := by decide +kernel
theorem dX10_isSwap_20 : decode cX10_isSwap 20 = .ok (.ifCond .ne 54, 3) := by decide +kernel
theorem dX10_isSwap_23 : decode cX10_isSwap 23 = .ok (.iload 6, 2) := by decide +kernel
theorem dX10_isSwap_25 : decode cX10_isSwap 25 = .ok (.iload_n 1, 1) := by decide +kernel
theorem dX10_isSwap_26 : decode cX10_isSwap 26 = .ok (.if_icmp .eq 52, 3) := by decide +kernel
theorem dX10_isSwap_29 : decode cX10_isSwap 29 = .ok (.iload 6, 2) := by decide +kernel
theorem dX10_isSwap_31 : decode cX10_isSwap 31 = .ok (.aload_n 0, 1) := by decide +kernel
theorem dX10_isSwap_32 : decode cX10_isSwap 32 = .ok (.getfield 35, 3) := by decide +kernel
theorem dX10_isSwap_35 : decode cX10_isSwap 35 = .ok (.if_icmp .eq 43, 3) := by decide +kernel
theorem dX10_isSwap_38 : decode cX10_isSwap 38 = .ok (.aload_n 0, 1) := by decide +kernel
theorem dX10_isSwap_39 : decode cX10_isSwap 39 = .ok (.getfield 29, 3) := by decide +kernel
theorem dX10_isSwap_42 : decode cX10_isSwap 42 = .ok (.bipush 31, 2) := by decide +kernel
theorem dX10_isSwap_44 : decode cX10_isSwap 44 = .ok (.iload 6, 2) := by decide +kernel
theorem dX10_isSwap_46 : decode cX10_isSwap 46 = .ok (.imul, 1) := by decide +kernel
theorem dX10_isSwap_47 : decode cX10_isSwap 47 = .ok (.iload 4, 2) := by decide +kernel
theorem dX10_isSwap_49 : decode cX10_isSwap 49 = .ok (.iadd, 1) := by decide +kernel
theorem dX10_isSwap_50 : decode cX10_isSwap 50 = .ok (.iaload, 1) := by decide +kernel
theorem dX10_isSwap_51 : decode cX10_isSwap 51 = .ok (.iload_n 3, 1) := by decide +kernel
theorem dX10_isSwap_52 : decode cX10_isSwap 52 = .ok (.if_icmp .ne 26, 3) := by decide +kernel
theorem dX10_isSwap_55 : decode cX10_isSwap 55 = .ok (.aload_n 0, 1) := by decide +kernel
theorem dX10_isSwap_56 : decode cX10_isSwap 56 = .ok (.getfield 29, 3) := by decide +kernel
theorem dX10_isSwap_59 : decode cX10_isSwap 59 = .ok (.bipush 31, 2) := by decide +kernel
theorem dX10_isSwap_61 : decode cX10_isSwap 61 = .ok (.iload 6, 2) := by decide +kernel
theorem dX10_isSwap_63 : decode cX10_isSwap 63 = .ok (.imul, 1) := by decide +kernel
theorem dX10_isSwap_64 : decode cX10_isSwap 64 = .ok (.iload 4, 2) := by decide +kernel
theorem dX10_isSwap_66 : decode cX10_isSwap 66 = .ok (.iadd, 1) := by decide +kernel
theorem dX10_isSwap_67 : decode cX10_isSwap 67 = .ok (.iconst 1, 1) := by decide +kernel
theorem dX10_isSwap_68 : decode cX10_isSwap 68 = .ok (.iadd, 1) := by decide +kernel
theorem dX10_isSwap_69 : decode cX10_isSwap 69 = .ok (.iaload, 1) := by decide +kernel
theorem dX10_isSwap_70 : decode cX10_isSwap 70 = .ok (.iload_n 2, 1) := by decide +kernel
theorem dX10_isSwap_71 : decode cX10_isSwap 71 = .ok (.if_icmp .ne 7, 3) := by decide +kernel
theorem dX10_isSwap_74 : decode cX10_isSwap 74 = .ok (.iconst 1, 1) := by decide +kernel
theorem dX10_isSwap_75 : decode cX10_isSwap 75 = .ok (.goto 4, 3) := by decide +kernel
theorem dX10_isSwap_78 : decode cX10_isSwap 78 = .ok (.iconst 0, 1) := by decide +kernel
theorem dX10_isSwap_79 : decode cX10_isSwap 79 = .ok (.istore 5, 2) := by decide +kernel
theorem dX10_isSwap_81 : decode cX10_isSwap 81 = .ok (.iinc 6 1, 3) := by decide +kernel
theorem dX10_isSwap_84 : decode cX10_isSwap 84 = .ok (.goto (-78), 3) := by decide +kernel
theorem dX10_isSwap_87 : decode cX10_isSwap 87 = .ok (.iload 5, 2) := by decide +kernel
theorem dX10_isSwap_89 : decode cX10_isSwap 89 = .ok (.ireturn, 1) := by decide +kernel
theorem dX10_isLiftFree_0 : decode cX10_isLiftFree 0 = .ok (.iconst 1, 1) := by decide +kernel
theorem dX10_isLiftFree_1 : decode cX10_isLiftFree 1 = .ok (.istore 4, 2) := by decide +kernel
theorem dX10_isLiftFree_3 : decode cX10_isLiftFree 3 = .ok (.iconst 0, 1) := by decide +kernel
theorem dX10_isLiftFree_4 : decode cX10_isLiftFree 4 = .ok (.istore 5, 2) := by decide +kernel
theorem dX10_isLiftFree_6 : decode cX10_isLiftFree 6 = .ok (.iload 5, 2) := by decide +kernel
theorem dX10_isLiftFree_8 : decode cX10_isLiftFree 8 = .ok (.aload_n 0, 1) := by decide +kernel
theorem dX10_isLiftFree_9 : decode cX10_isLiftFree 9 = .ok (.getfield 7, 3) := by decide +kernel
theorem dX10_isLiftFree_12 : decode cX10_isLiftFree 12 = .ok (.bipush 6, 2) := by decide +kernel
theorem dX10_isLiftFree_14 : decode cX10_isLiftFree 14 = .ok (.iaload, 1) := by decide +kernel
theorem dX10_isLiftFree_15 : decode cX10_isLiftFree 15 = .ok (.if_icmp .ge 70, 3) := by decide +kernel
theorem dX10_isLiftFree_18 : decode cX10_isLiftFree 18 = .ok (.iload_n 3, 1) := by decide +kernel
theorem dX10_isLiftFree_19 : decode cX10_isLiftFree 19 = .ok (.istore 6, 2) := by decide +kernel
theorem dX10_isLiftFree_21 : decode cX10_isLiftFree 21 = .ok (.iload 6, 2) := by decide +kernel
theorem dX10_isLiftFree_23 : decode cX10_isLiftFree 23 = .ok (.iload_n 3, 1) := by decide +kernel
theorem dX10_isLiftFree_24 : decode cX10_isLiftFree 24 = .ok (.iconst 3, 1) := by decide +kernel
theorem dX10_isLiftFree_25 : decode cX10_isLiftFree 25 = .ok (.iadd, 1) := by decide +kernel
theorem dX10_isLiftFree_26 : decode cX10_isLiftFree 26 = .ok (.if_icmp .ge 53, 3) := by decide +kernel
theorem dX10_isLiftFree_29 : decode cX10_isLiftFree 29 = .ok (.iload 4, 2) := by decide +kernel
theorem dX10_isLiftFree_31 : decode cX10_isLiftFree 31 = .ok (.ifCond .eq 39, 3) := by decide +kernel
theorem dX10_isLiftFree_34 : decode cX10_isLiftFree 34 = .ok (.iload 5, 2) := by decide +kernel
theorem dX10_isLiftFree_36 : decode cX10_isLiftFree 36 = .ok (.iload_n 1, 1) := by decide +kernel
theorem dX10_isLiftFree_37 : decode cX10_isLiftFree 37 = .ok (.if_icmp .eq 29, 3) := by decide +kernel
theorem dX10_isLiftFree_40 : decode cX10_isLiftFree 40 = .ok (.iload 5, 2) := by decide +kernel
theorem dX10_isLiftFree_42 : decode cX10_isLiftFree 42 = .ok (.aload_n 0, 1) := by decide +kernel
theorem dX10_isLiftFree_43 : decode cX10_isLiftFree 43 = .ok (.getfield 35, 3) := by decide +kernel
theorem dX10_isLiftFree_46 : decode cX10_isLiftFree 46 = .ok (.if_icmp .eq 20, 3) := by decide +kernel
theorem dX10_isLiftFree_49 : decode cX10_isLiftFree 49 = .ok (.aload_n 0, 1) := by decide +kernel
theorem dX10_isLiftFree_50 : decode cX10_isLiftFree 50 = .ok (.getfield 32, 3) := by decide +kernel
theorem dX10_isLiftFree_53 : decode cX10_isLiftFree 53 = .ok (.bipush 31, 2) := by decide +kernel
theorem dX10_isLiftFree_55 : decode cX10_isLiftFree 55 = .ok (.iload 5, 2) := by decide +kernel
theorem dX10_isLiftFree_57 : decode cX10_isLiftFree 57 = .ok (.imul, 1) := by decide +kernel
theorem dX10_isLiftFree_58 : decode cX10_isLiftFree 58 = .ok (.iload 6, 2) := by decide +kernel
theorem dX10_isLiftFree_60 : decode cX10_isLiftFree 60 = .ok (.iadd, 1) := by decide +kernel
theorem dX10_isLiftFree_61 : decode cX10_isLiftFree 61 = .ok (.iaload, 1) := by decide +kernel
theorem dX10_isLiftFree_62 : decode cX10_isLiftFree 62 = .ok (.iload_n 2, 1) := by decide +kernel
theorem dX10_isLiftFree_63 : decode cX10_isLiftFree 63 = .ok (.if_icmp .eq 7, 3) := by decide +kernel
theorem dX10_isLiftFree_66 : decode cX10_isLiftFree 66 = .ok (.iconst 1, 1) := by decide +kernel
theorem dX10_isLiftFree_67 : decode cX10_isLiftFree 67 = .ok (.goto 4, 3) := by decide +kernel
theorem dX10_isLiftFree_70 : decode cX10_isLiftFree 70 = .ok (.iconst 0, 1) := by decide +kernel
theorem dX10_isLiftFree_71 : decode cX10_isLiftFree 71 = .ok (.istore 4, 2) := by decide +kernel
theorem dX10_isLiftFree_73 : decode cX10_isLiftFree 73 = .ok (.iinc 6 1, 3) := by decide +kernel
theorem dX10_isLiftFree_76 : decode cX10_isLiftFree 76 = .ok (.goto (-55), 3) := by decide +kernel
theorem dX10_isLiftFree_79 : decode cX10_isLiftFree 79 = .ok (.iinc 5 1, 3) := by decide +kernel
theorem dX10_isLiftFree_82 : decode cX10_isLiftFree 82 = .ok (.goto (-76), 3) := by decide +kernel
theorem dX10_isLiftFree_85 : decode cX10_isLiftFree 85 = .ok (.iload 4, 2) := by decide +kernel
theorem dX10_isLiftFree_87 : decode cX10_isLiftFree 87 = .ok (.ireturn, 1) := by decide +kernel
theorem dX10_isLegal_0 : decode cX10_isLegal 0 = .ok (.aload_n 0, 1) := by decide +kernel
theorem dX10_isLegal_1 : decode cX10_isLegal 1 = .ok (.iload_n 2, 1) := by decide +kernel
theorem dX10_isLegal_2 : decode cX10_isLegal 2 = .ok (.iload_n 3, 1) := by decide +kernel
theorem dX10_isLegal_3 : decode cX10_isLegal 3 = .ok (.invokevirtual 72, 3) := by decide +kernel
theorem dX10_isLegal_6 : decode cX10_isLegal 6 = .ok (.istore 5, 2) := by decide +kernel
theorem dX10_isLegal_8 : decode cX10_isLegal 8 = .ok (.iload 5, 2) := by decide +kernel
theorem dX10_isLegal_10 : decode cX10_isLegal 10 = .ok (.iconst (-1), 1) := by decide +kernel
theorem dX10_isLegal_11 : decode cX10_isLegal 11 = .ok (.if_icmp .eq 32, 3) := by decide +kernel
theorem dX10_isLegal_14 : decode cX10_isLegal 14 = .ok (.iload 4, 2) := by decide +kernel
theorem dX10_isLegal_16 : decode cX10_isLegal 16 = .ok (.iload_n 3, 1) := by decide +kernel
theorem dX10_isLegal_17 : decode cX10_isLegal 17 = .ok (.invokestatic 68, 3) := by decide +kernel
theorem dX10_isLegal_20 : decode cX10_isLegal 20 = .ok (.iadd, 1) := by decide +kernel
theorem dX10_isLegal_21 : decode cX10_isLegal 21 = .ok (.bipush 30, 2) := by decide +kernel
theorem dX10_isLegal_23 : decode cX10_isLegal 23 = .ok (.if_icmp .gt 20, 3) := by decide +kernel
theorem dX10_isLegal_26 : decode cX10_isLegal 26 = .ok (.aload_n 0, 1) := by decide +kernel
theorem dX10_isLegal_27 : decode cX10_isLegal 27 = .ok (.iload_n 1, 1) := by decide +kernel
theorem dX10_isLegal_28 : decode cX10_isLegal 28 = .ok (.iload 5, 2) := by decide +kernel
theorem dX10_isLegal_30 : decode cX10_isLegal 30 = .ok (.iload 4, 2) := by decide +kernel
theorem dX10_isLegal_32 : decode cX10_isLegal 32 = .ok (.iload_n 3, 1) := by decide +kernel
theorem dX10_isLegal_33 : decode cX10_isLegal 33 = .ok (.invokestatic 68, 3) := by decide +kernel
theorem dX10_isLegal_36 : decode cX10_isLegal 36 = .ok (.iadd, 1) := by decide +kernel
theorem dX10_isLegal_37 : decode cX10_isLegal 37 = .ok (.invokevirtual 83, 3) := by decide +kernel
theorem dX10_isLegal_40 : decode cX10_isLegal 40 = .ok (.ifCond .ne 5, 3) := by decide +kernel
theorem dX10_isLegal_43 : decode cX10_isLegal 43 = .ok (.iconst 0, 1) := by decide +kernel
theorem dX10_isLegal_44 : decode cX10_isLegal 44 = .ok (.ireturn, 1) := by decide +kernel
theorem dX10_isLegal_45 : decode cX10_isLegal 45 = .ok (.iload_n 3, 1) := by decide +kernel
theorem dX10_isLegal_46 : decode cX10_isLegal 46 = .ok (.iconst 5, 1) := by decide +kernel
theorem dX10_isLegal_47 : decode cX10_isLegal 47 = .ok (.if_icmp .lt 16, 3) := by decide +kernel
theorem dX10_isLegal_50 : decode cX10_isLegal 50 = .ok (.aload_n 0, 1) := by decide +kernel
theorem dX10_isLegal_51 : decode cX10_isLegal 51 = .ok (.iload_n 1, 1) := by decide +kernel
theorem dX10_isLegal_52 : decode cX10_isLegal 52 = .ok (.iload_n 3, 1) := by decide +kernel
theorem dX10_isLegal_53 : decode cX10_isLegal 53 = .ok (.iconst 5, 1) := by decide +kernel
theorem dX10_isLegal_54 : decode cX10_isLegal 54 = .ok (.isub, 1) := by decide +kernel
theorem dX10_isLegal_55 : decode cX10_isLegal 55 = .ok (.iload 4, 2) := by decide +kernel
theorem dX10_isLegal_57 : decode cX10_isLegal 57 = .ok (.invokevirtual 86, 3) := by decide +kernel
theorem dX10_isLegal_60 : decode cX10_isLegal 60 = .ok (.goto 25, 3) := by decide +kernel
theorem dX10_isLegal_63 : decode cX10_isLegal 63 = .ok (.iload_n 3, 1) := by decide +kernel
theorem dX10_isLegal_64 : decode cX10_isLegal 64 = .ok (.ifCond .eq 16, 3) := by decide +kernel
theorem dX10_isLegal_67 : decode cX10_isLegal 67 = .ok (.aload_n 0, 1) := by decide +kernel
theorem dX10_isLegal_68 : decode cX10_isLegal 68 = .ok (.iload_n 1, 1) := by decide +kernel
theorem dX10_isLegal_69 : decode cX10_isLegal 69 = .ok (.iload_n 2, 1) := by decide +kernel
theorem dX10_isLegal_70 : decode cX10_isLegal 70 = .ok (.iload 5, 2) := by decide +kernel
theorem dX10_isLegal_72 : decode cX10_isLegal 72 = .ok (.iload 4, 2) := by decide +kernel
theorem dX10_isLegal_74 : decode cX10_isLegal 74 = .ok (.invokevirtual 89, 3) := by decide +kernel
theorem dX10_isLegal_77 : decode cX10_isLegal 77 = .ok (.ifCond .ne 7, 3) := by decide +kernel
theorem dX10_isLegal_80 : decode cX10_isLegal 80 = .ok (.iconst 1, 1) := by decide +kernel
theorem dX10_isLegal_81 : decode cX10_isLegal 81 = .ok (.goto 4, 3) := by decide +kernel
theorem dX10_isLegal_84 : decode cX10_isLegal 84 = .ok (.iconst 0, 1) := by decide +kernel
theorem dX10_isLegal_85 : decode cX10_isLegal 85 = .ok (.ireturn, 1) := by decide +kernel
theorem dX10_reaches_0 : decode cX10_reaches 0 = .ok (.iconst 0, 1) := by decide +kernel
theorem dX10_reaches_1 : decode cX10_reaches 1 = .ok (.istore 4, 2) := by decide +kernel
theorem dX10_reaches_3 : decode cX10_reaches 3 = .ok (.iload 4, 2) := by decide +kernel
theorem dX10_reaches_5 : decode cX10_reaches 5 = .ok (.sipush 1240, 3) := by decide +kernel
theorem dX10_reaches_8 : decode cX10_reaches 8 = .ok (.if_icmp .ge 17, 3) := by decide +kernel
theorem dX10_reaches_11 : decode cX10_reaches 11 = .ok (.aload_n 0, 1) := by decide +kernel
theorem dX10_reaches_12 : decode cX10_reaches 12 = .ok (.getfield 38, 3) := by decide +kernel
theorem dX10_reaches_15 : decode cX10_reaches 15 = .ok (.iload 4, 2) := by decide +kernel
theorem dX10_reaches_17 : decode cX10_reaches 17 = .ok (.iconst 0, 1) := by decide +kernel
theorem dX10_reaches_18 : decode cX10_reaches 18 = .ok (.bastore, 1) := by decide +kernel
theorem dX10_reaches_19 : decode cX10_reaches 19 = .ok (.iinc 4 1, 3) := by decide +kernel
theorem dX10_reaches_22 : decode cX10_reaches 22 = .ok (.goto (-19), 3) := by decide +kernel
theorem dX10_reaches_25 : decode cX10_reaches 25 = .ok (.aload_n 0, 1) := by decide +kernel
theorem dX10_reaches_26 : decode cX10_reaches 26 = .ok (.getfield 38, 3) := by decide +kernel
theorem dX10_reaches_29 : decode cX10_reaches 29 = .ok (.bipush 40, 2) := by decide +kernel
theorem dX10_reaches_31 : decode cX10_reaches 31 = .ok (.iload_n 3, 1) := by decide +kernel
theorem dX10_reaches_32 : decode cX10_reaches 32 = .ok (.imul, 1) := by decide +kernel
theorem dX10_reaches_33 : decode cX10_reaches 33 = .ok (.iload_n 2, 1) := by decide +kernel
theorem dX10_reaches_34 : decode cX10_reaches 34 = .ok (.iadd, 1) := by decide +kernel
theorem dX10_reaches_35 : decode cX10_reaches 35 = .ok (.iconst 1, 1) := by decide +kernel
theorem dX10_reaches_36 : decode cX10_reaches 36 = .ok (.bastore, 1) := by decide +kernel
theorem dX10_reaches_37 : decode cX10_reaches 37 = .ok (.iload_n 3, 1) := by decide +kernel
theorem dX10_reaches_38 : decode cX10_reaches 38 = .ok (.istore 4, 2) := by decide +kernel
theorem dX10_reaches_40 : decode cX10_reaches 40 = .ok (.iload 4, 2) := by decide +kernel
theorem dX10_reaches_42 : decode cX10_reaches 42 = .ok (.bipush 30, 2) := by decide +kernel
theorem dX10_reaches_44 : decode cX10_reaches 44 = .ok (.if_icmp .ge 50, 3) := by decide +kernel
theorem dX10_reaches_47 : decode cX10_reaches 47 = .ok (.iconst 0, 1) := by decide +kernel
theorem dX10_reaches_48 : decode cX10_reaches 48 = .ok (.istore 5, 2) := by decide +kernel
theorem dX10_reaches_50 : decode cX10_reaches 50 = .ok (.iload 5, 2) := by decide +kernel
theorem dX10_reaches_52 : decode cX10_reaches 52 = .ok (.bipush 40, 2) := by decide +kernel
theorem dX10_reaches_54 : decode cX10_reaches 54 = .ok (.if_icmp .ge 34, 3) := by decide +kernel
theorem dX10_reaches_57 : decode cX10_reaches 57 = .ok (.aload_n 0, 1) := by decide +kernel
theorem dX10_reaches_58 : decode cX10_reaches 58 = .ok (.getfield 38, 3) := by decide +kernel
theorem dX10_reaches_61 : decode cX10_reaches 61 = .ok (.bipush 40, 2) := by decide +kernel
theorem dX10_reaches_63 : decode cX10_reaches 63 = .ok (.iload 4, 2) := by decide +kernel
theorem dX10_reaches_65 : decode cX10_reaches 65 = .ok (.imul, 1) := by decide +kernel
theorem dX10_reaches_66 : decode cX10_reaches 66 = .ok (.iload 5, 2) := by decide +kernel
theorem dX10_reaches_68 : decode cX10_reaches 68 = .ok (.iadd, 1) := by decide +kernel
theorem dX10_reaches_69 : decode cX10_reaches 69 = .ok (.baload, 1) := by decide +kernel
theorem dX10_reaches_70 : decode cX10_reaches 70 = .ok (.ifCond .eq 12, 3) := by decide +kernel
theorem dX10_reaches_73 : decode cX10_reaches 73 = .ok (.aload_n 0, 1) := by decide +kernel
theorem dX10_reaches_74 : decode cX10_reaches 74 = .ok (.iload_n 1, 1) := by decide +kernel
theorem dX10_reaches_75 : decode cX10_reaches 75 = .ok (.iload 5, 2) := by decide +kernel
theorem dX10_reaches_77 : decode cX10_reaches 77 = .ok (.iload 4, 2) := by decide +kernel
theorem dX10_reaches_79 : decode cX10_reaches 79 = .ok (.invokevirtual 93, 3) := by decide +kernel
theorem dX10_reaches_82 : decode cX10_reaches 82 = .ok (.iinc 5 1, 3) := by decide +kernel
theorem dX10_reaches_85 : decode cX10_reaches 85 = .ok (.goto (-35), 3) := by decide +kernel
theorem dX10_reaches_88 : decode cX10_reaches 88 = .ok (.iinc 4 1, 3) := by decide +kernel
theorem dX10_reaches_91 : decode cX10_reaches 91 = .ok (.goto (-51), 3) := by decide +kernel
theorem dX10_reaches_94 : decode cX10_reaches 94 = .ok (.return_, 1) := by decide +kernel
theorem dX10_spreads_0 : decode cX10_spreads 0 = .ok (.iconst 0, 1) := by decide +kernel
theorem dX10_spreads_1 : decode cX10_spreads 1 = .ok (.istore 4, 2) := by decide +kernel
theorem dX10_spreads_3 : decode cX10_spreads 3 = .ok (.iload 4, 2) := by decide +kernel
theorem dX10_spreads_5 : decode cX10_spreads 5 = .ok (.bipush 7, 2) := by decide +kernel
theorem dX10_spreads_7 : decode cX10_spreads 7 = .ok (.if_icmp .ge 45, 3) := by decide +kernel
theorem dX10_spreads_10 : decode cX10_spreads 10 = .ok (.aload_n 0, 1) := by decide +kernel
theorem dX10_spreads_11 : decode cX10_spreads 11 = .ok (.iload_n 1, 1) := by decide +kernel
theorem dX10_spreads_12 : decode cX10_spreads 12 = .ok (.iload_n 2, 1) := by decide +kernel
theorem dX10_spreads_13 : decode cX10_spreads 13 = .ok (.iload 4, 2) := by decide +kernel
theorem dX10_spreads_15 : decode cX10_spreads 15 = .ok (.iload_n 3, 1) := by decide +kernel
theorem dX10_spreads_16 : decode cX10_spreads 16 = .ok (.invokevirtual 97, 3) := by decide +kernel
theorem dX10_spreads_19 : decode cX10_spreads 19 = .ok (.ifCond .eq 27, 3) := by decide +kernel
theorem dX10_spreads_22 : decode cX10_spreads 22 = .ok (.aload_n 0, 1) := by decide +kernel
theorem dX10_spreads_23 : decode cX10_spreads 23 = .ok (.getfield 38, 3) := by decide +kernel
theorem dX10_spreads_26 : decode cX10_spreads 26 = .ok (.bipush 40, 2) := by decide +kernel
theorem dX10_spreads_28 : decode cX10_spreads 28 = .ok (.iload_n 3, 1) := by decide +kernel
theorem dX10_spreads_29 : decode cX10_spreads 29 = .ok (.iload 4, 2) := by decide +kernel
theorem dX10_spreads_31 : decode cX10_spreads 31 = .ok (.invokestatic 68, 3) := by decide +kernel
theorem dX10_spreads_34 : decode cX10_spreads 34 = .ok (.iadd, 1) := by decide +kernel
theorem dX10_spreads_35 : decode cX10_spreads 35 = .ok (.imul, 1) := by decide +kernel
theorem dX10_spreads_36 : decode cX10_spreads 36 = .ok (.aload_n 0, 1) := by decide +kernel
theorem dX10_spreads_37 : decode cX10_spreads 37 = .ok (.iload_n 2, 1) := by decide +kernel
theorem dX10_spreads_38 : decode cX10_spreads 38 = .ok (.iload 4, 2) := by decide +kernel
theorem dX10_spreads_40 : decode cX10_spreads 40 = .ok (.invokevirtual 72, 3) := by decide +kernel
theorem dX10_spreads_43 : decode cX10_spreads 43 = .ok (.iadd, 1) := by decide +kernel
theorem dX10_spreads_44 : decode cX10_spreads 44 = .ok (.iconst 1, 1) := by decide +kernel
theorem dX10_spreads_45 : decode cX10_spreads 45 = .ok (.bastore, 1) := by decide +kernel
theorem dX10_spreads_46 : decode cX10_spreads 46 = .ok (.iinc 4 1, 3) := by decide +kernel
theorem dX10_spreads_49 : decode cX10_spreads 49 = .ok (.goto (-46), 3) := by decide +kernel
theorem dX10_spreads_52 : decode cX10_spreads 52 = .ok (.return_, 1) := by decide +kernel
theorem dX10_canWait_0 : decode cX10_canWait 0 = .ok (.iconst 1, 1) := by decide +kernel
theorem dX10_canWait_1 : decode cX10_canWait 1 = .ok (.istore 5, 2) := by decide +kernel
theorem dX10_canWait_3 : decode cX10_canWait 3 = .ok (.iload_n 3, 1) := by decide +kernel
theorem dX10_canWait_4 : decode cX10_canWait 4 = .ok (.istore 6, 2) := by decide +kernel
theorem dX10_canWait_6 : decode cX10_canWait 6 = .ok (.iload 6, 2) := by decide +kernel
theorem dX10_canWait_8 : decode cX10_canWait 8 = .ok (.iload 4, 2) := by decide +kernel
theorem dX10_canWait_10 : decode cX10_canWait 10 = .ok (.if_icmp .gt 32, 3) := by decide +kernel
theorem dX10_canWait_13 : decode cX10_canWait 13 = .ok (.iload 5, 2) := by decide +kernel
theorem dX10_canWait_15 : decode cX10_canWait 15 = .ok (.ifCond .eq 18, 3) := by decide +kernel
theorem dX10_canWait_18 : decode cX10_canWait 18 = .ok (.aload_n 0, 1) := by decide +kernel
theorem dX10_canWait_19 : decode cX10_canWait 19 = .ok (.iload_n 1, 1) := by decide +kernel
theorem dX10_canWait_20 : decode cX10_canWait 20 = .ok (.iload_n 2, 1) := by decide +kernel
theorem dX10_canWait_21 : decode cX10_canWait 21 = .ok (.iload 6, 2) := by decide +kernel
theorem dX10_canWait_23 : decode cX10_canWait 23 = .ok (.invokevirtual 83, 3) := by decide +kernel
theorem dX10_canWait_26 : decode cX10_canWait 26 = .ok (.ifCond .eq 7, 3) := by decide +kernel
theorem dX10_canWait_29 : decode cX10_canWait 29 = .ok (.iconst 1, 1) := by decide +kernel
theorem dX10_canWait_30 : decode cX10_canWait 30 = .ok (.goto 4, 3) := by decide +kernel
theorem dX10_canWait_33 : decode cX10_canWait 33 = .ok (.iconst 0, 1) := by decide +kernel
theorem dX10_canWait_34 : decode cX10_canWait 34 = .ok (.istore 5, 2) := by decide +kernel
theorem dX10_canWait_36 : decode cX10_canWait 36 = .ok (.iinc 6 1, 3) := by decide +kernel
theorem dX10_canWait_39 : decode cX10_canWait 39 = .ok (.goto (-33), 3) := by decide +kernel
theorem dX10_canWait_42 : decode cX10_canWait 42 = .ok (.iload 5, 2) := by decide +kernel
theorem dX10_canWait_44 : decode cX10_canWait 44 = .ok (.ireturn, 1) := by decide +kernel
theorem dX10_costsBack_0 : decode cX10_costsBack 0 = .ok (.iconst 0, 1) := by decide +kernel
theorem dX10_costsBack_1 : decode cX10_costsBack 1 = .ok (.istore 5, 2) := by decide +kernel
theorem dX10_costsBack_3 : decode cX10_costsBack 3 = .ok (.iload 5, 2) := by decide +kernel
theorem dX10_costsBack_5 : decode cX10_costsBack 5 = .ok (.sipush 1240, 3) := by decide +kernel
theorem dX10_costsBack_8 : decode cX10_costsBack 8 = .ok (.if_icmp .ge 18, 3) := by decide +kernel
theorem dX10_costsBack_11 : decode cX10_costsBack 11 = .ok (.aload_n 0, 1) := by decide +kernel
theorem dX10_costsBack_12 : decode cX10_costsBack 12 = .ok (.getfield 42, 3) := by decide +kernel
theorem dX10_costsBack_15 : decode cX10_costsBack 15 = .ok (.iload 5, 2) := by decide +kernel
theorem dX10_costsBack_17 : decode cX10_costsBack 17 = .ok (.ldc 100, 2) := by decide +kernel
theorem dX10_costsBack_19 : decode cX10_costsBack 19 = .ok (.iastore, 1) := by decide +kernel
theorem dX10_costsBack_20 : decode cX10_costsBack 20 = .ok (.iinc 5 1, 3) := by decide +kernel
theorem dX10_costsBack_23 : decode cX10_costsBack 23 = .ok (.goto (-20), 3) := by decide +kernel
theorem dX10_costsBack_26 : decode cX10_costsBack 26 = .ok (.aload_n 0, 1) := by decide +kernel
theorem dX10_costsBack_27 : decode cX10_costsBack 27 = .ok (.getfield 42, 3) := by decide +kernel
theorem dX10_costsBack_30 : decode cX10_costsBack 30 = .ok (.bipush 40, 2) := by decide +kernel
theorem dX10_costsBack_32 : decode cX10_costsBack 32 = .ok (.iload 4, 2) := by decide +kernel
theorem dX10_costsBack_34 : decode cX10_costsBack 34 = .ok (.imul, 1) := by decide +kernel
theorem dX10_costsBack_35 : decode cX10_costsBack 35 = .ok (.iload_n 2, 1) := by decide +kernel
theorem dX10_costsBack_36 : decode cX10_costsBack 36 = .ok (.iadd, 1) := by decide +kernel
theorem dX10_costsBack_37 : decode cX10_costsBack 37 = .ok (.iconst 0, 1) := by decide +kernel
theorem dX10_costsBack_38 : decode cX10_costsBack 38 = .ok (.iastore, 1) := by decide +kernel
theorem dX10_costsBack_39 : decode cX10_costsBack 39 = .ok (.iload 4, 2) := by decide +kernel
theorem dX10_costsBack_41 : decode cX10_costsBack 41 = .ok (.iconst 1, 1) := by decide +kernel
theorem dX10_costsBack_42 : decode cX10_costsBack 42 = .ok (.isub, 1) := by decide +kernel
theorem dX10_costsBack_43 : decode cX10_costsBack 43 = .ok (.istore 5, 2) := by decide +kernel
theorem dX10_costsBack_45 : decode cX10_costsBack 45 = .ok (.iload 5, 2) := by decide +kernel
theorem dX10_costsBack_47 : decode cX10_costsBack 47 = .ok (.iload_n 3, 1) := by decide +kernel
theorem dX10_costsBack_48 : decode cX10_costsBack 48 = .ok (.if_icmp .lt 144, 3) := by decide +kernel
theorem dX10_costsBack_51 : decode cX10_costsBack 51 = .ok (.iconst 0, 1) := by decide +kernel
theorem dX10_costsBack_52 : decode cX10_costsBack 52 = .ok (.istore 6, 2) := by decide +kernel
theorem dX10_costsBack_54 : decode cX10_costsBack 54 = .ok (.iload 6, 2) := by decide +kernel
theorem dX10_costsBack_56 : decode cX10_costsBack 56 = .ok (.bipush 40, 2) := by decide +kernel
theorem dX10_costsBack_58 : decode cX10_costsBack 58 = .ok (.if_icmp .ge 128, 3) := by decide +kernel
theorem dX10_costsBack_61 : decode cX10_costsBack 61 = .ok (.iconst 0, 1) := by decide +kernel
theorem dX10_costsBack_62 : decode cX10_costsBack 62 = .ok (.istore 7, 2) := by decide +kernel
theorem dX10_costsBack_64 : decode cX10_costsBack 64 = .ok (.iload 7, 2) := by decide +kernel
theorem dX10_costsBack_66 : decode cX10_costsBack 66 = .ok (.bipush 7, 2) := by decide +kernel
theorem dX10_costsBack_68 : decode cX10_costsBack 68 = .ok (.if_icmp .ge 112, 3) := by decide +kernel
theorem dX10_costsBack_71 : decode cX10_costsBack 71 = .ok (.aload_n 0, 1) := by decide +kernel
theorem dX10_costsBack_72 : decode cX10_costsBack 72 = .ok (.getfield 38, 3) := by decide +kernel
theorem dX10_costsBack_75 : decode cX10_costsBack 75 = .ok (.bipush 40, 2) := by decide +kernel
theorem dX10_costsBack_77 : decode cX10_costsBack 77 = .ok (.iload 5, 2) := by decide +kernel
theorem dX10_costsBack_79 : decode cX10_costsBack 79 = .ok (.imul, 1) := by decide +kernel
theorem dX10_costsBack_80 : decode cX10_costsBack 80 = .ok (.iload 6, 2) := by decide +kernel
theorem dX10_costsBack_82 : decode cX10_costsBack 82 = .ok (.iadd, 1) := by decide +kernel
theorem dX10_costsBack_83 : decode cX10_costsBack 83 = .ok (.baload, 1) := by decide +kernel
theorem dX10_costsBack_84 : decode cX10_costsBack 84 = .ok (.ifCond .eq 96, 3) := by decide +kernel
theorem dX10_costsBack_87 : decode cX10_costsBack 87 = .ok (.iload 5, 2) := by decide +kernel
theorem dX10_costsBack_89 : decode cX10_costsBack 89 = .ok (.iload 7, 2) := by decide +kernel
theorem dX10_costsBack_91 : decode cX10_costsBack 91 = .ok (.invokestatic 68, 3) := by decide +kernel
theorem dX10_costsBack_94 : decode cX10_costsBack 94 = .ok (.iadd, 1) := by decide +kernel
theorem dX10_costsBack_95 : decode cX10_costsBack 95 = .ok (.iload 4, 2) := by decide +kernel
theorem dX10_costsBack_97 : decode cX10_costsBack 97 = .ok (.if_icmp .gt 77, 3) := by decide +kernel
theorem dX10_costsBack_100 : decode cX10_costsBack 100 = .ok (.aload_n 0, 1) := by decide +kernel
theorem dX10_costsBack_101 : decode cX10_costsBack 101 = .ok (.iload_n 1, 1) := by decide +kernel
theorem dX10_costsBack_102 : decode cX10_costsBack 102 = .ok (.iload 6, 2) := by decide +kernel
theorem dX10_costsBack_104 : decode cX10_costsBack 104 = .ok (.iload 7, 2) := by decide +kernel
theorem dX10_costsBack_106 : decode cX10_costsBack 106 = .ok (.iload 5, 2) := by decide +kernel
theorem dX10_costsBack_108 : decode cX10_costsBack 108 = .ok (.invokevirtual 97, 3) := by decide +kernel
theorem dX10_costsBack_111 : decode cX10_costsBack 111 = .ok (.ifCond .eq 63, 3) := by decide +kernel
theorem dX10_costsBack_114 : decode cX10_costsBack 114 = .ok (.aload_n 0, 1) := by decide +kernel
theorem dX10_costsBack_115 : decode cX10_costsBack 115 = .ok (.getfield 42, 3) := by decide +kernel
theorem dX10_costsBack_118 : decode cX10_costsBack 118 = .ok (.bipush 40, 2) := by decide +kernel
theorem dX10_costsBack_120 : decode cX10_costsBack 120 = .ok (.iload 5, 2) := by decide +kernel
theorem dX10_costsBack_122 : decode cX10_costsBack 122 = .ok (.imul, 1) := by decide +kernel
theorem dX10_costsBack_123 : decode cX10_costsBack 123 = .ok (.iload 6, 2) := by decide +kernel
theorem dX10_costsBack_125 : decode cX10_costsBack 125 = .ok (.iadd, 1) := by decide +kernel
theorem dX10_costsBack_126 : decode cX10_costsBack 126 = .ok (.aload_n 0, 1) := by decide +kernel
theorem dX10_costsBack_127 : decode cX10_costsBack 127 = .ok (.getfield 42, 3) := by decide +kernel
theorem dX10_costsBack_130 : decode cX10_costsBack 130 = .ok (.bipush 40, 2) := by decide +kernel
theorem dX10_costsBack_132 : decode cX10_costsBack 132 = .ok (.iload 5, 2) := by decide +kernel
theorem dX10_costsBack_134 : decode cX10_costsBack 134 = .ok (.imul, 1) := by decide +kernel
theorem dX10_costsBack_135 : decode cX10_costsBack 135 = .ok (.iload 6, 2) := by decide +kernel
theorem dX10_costsBack_137 : decode cX10_costsBack 137 = .ok (.iadd, 1) := by decide +kernel
theorem dX10_costsBack_138 : decode cX10_costsBack 138 = .ok (.iaload, 1) := by decide +kernel
theorem dX10_costsBack_139 : decode cX10_costsBack 139 = .ok (.iload 7, 2) := by decide +kernel
theorem dX10_costsBack_141 : decode cX10_costsBack 141 = .ok (.invokestatic 101, 3) := by decide +kernel
theorem dX10_costsBack_144 : decode cX10_costsBack 144 = .ok (.aload_n 0, 1) := by decide +kernel
theorem dX10_costsBack_145 : decode cX10_costsBack 145 = .ok (.getfield 42, 3) := by decide +kernel
theorem dX10_costsBack_148 : decode cX10_costsBack 148 = .ok (.bipush 40, 2) := by decide +kernel
theorem dX10_costsBack_150 : decode cX10_costsBack 150 = .ok (.iload 5, 2) := by decide +kernel
theorem dX10_costsBack_152 : decode cX10_costsBack 152 = .ok (.iload 7, 2) := by decide +kernel
theorem dX10_costsBack_154 : decode cX10_costsBack 154 = .ok (.invokestatic 68, 3) := by decide +kernel
theorem dX10_costsBack_157 : decode cX10_costsBack 157 = .ok (.iadd, 1) := by decide +kernel
theorem dX10_costsBack_158 : decode cX10_costsBack 158 = .ok (.imul, 1) := by decide +kernel
theorem dX10_costsBack_159 : decode cX10_costsBack 159 = .ok (.aload_n 0, 1) := by decide +kernel
theorem dX10_costsBack_160 : decode cX10_costsBack 160 = .ok (.iload 6, 2) := by decide +kernel
theorem dX10_costsBack_162 : decode cX10_costsBack 162 = .ok (.iload 7, 2) := by decide +kernel
theorem dX10_costsBack_164 : decode cX10_costsBack 164 = .ok (.invokevirtual 72, 3) := by decide +kernel
theorem dX10_costsBack_167 : decode cX10_costsBack 167 = .ok (.iadd, 1) := by decide +kernel
theorem dX10_costsBack_168 : decode cX10_costsBack 168 = .ok (.iaload, 1) := by decide +kernel
theorem dX10_costsBack_169 : decode cX10_costsBack 169 = .ok (.iadd, 1) := by decide +kernel
theorem dX10_costsBack_170 : decode cX10_costsBack 170 = .ok (.invokestatic 104, 3) := by decide +kernel
theorem dX10_costsBack_173 : decode cX10_costsBack 173 = .ok (.iastore, 1) := by decide +kernel
theorem dX10_costsBack_174 : decode cX10_costsBack 174 = .ok (.iinc 7 1, 3) := by decide +kernel
theorem dX10_costsBack_177 : decode cX10_costsBack 177 = .ok (.goto (-113), 3) := by decide +kernel
theorem dX10_costsBack_180 : decode cX10_costsBack 180 = .ok (.iinc 6 1, 3) := by decide +kernel
theorem dX10_costsBack_183 : decode cX10_costsBack 183 = .ok (.goto (-129), 3) := by decide +kernel
theorem dX10_costsBack_186 : decode cX10_costsBack 186 = .ok (.iinc 5 (-1), 3) := by decide +kernel
theorem dX10_costsBack_189 : decode cX10_costsBack 189 = .ok (.goto (-144), 3) := by decide +kernel
theorem dX10_costsBack_192 : decode cX10_costsBack 192 = .ok (.return_, 1) := by decide +kernel
theorem dX10_routes_0 : decode cX10_routes 0 = .ok (.aload_n 0, 1) := by decide +kernel
theorem dX10_routes_1 : decode cX10_routes 1 = .ok (.iload_n 1, 1) := by decide +kernel
theorem dX10_routes_2 : decode cX10_routes 2 = .ok (.iload_n 2, 1) := by decide +kernel
theorem dX10_routes_3 : decode cX10_routes 3 = .ok (.iload_n 3, 1) := by decide +kernel
theorem dX10_routes_4 : decode cX10_routes 4 = .ok (.invokevirtual 109, 3) := by decide +kernel
theorem dX10_routes_7 : decode cX10_routes 7 = .ok (.iload_n 3, 1) := by decide +kernel
theorem dX10_routes_8 : decode cX10_routes 8 = .ok (.istore 6, 2) := by decide +kernel
theorem dX10_routes_10 : decode cX10_routes 10 = .ok (.iload 6, 2) := by decide +kernel
theorem dX10_routes_12 : decode cX10_routes 12 = .ok (.bipush 30, 2) := by decide +kernel
theorem dX10_routes_14 : decode cX10_routes 14 = .ok (.if_icmp .gt 44, 3) := by decide +kernel
theorem dX10_routes_17 : decode cX10_routes 17 = .ok (.aload_n 0, 1) := by decide +kernel
theorem dX10_routes_18 : decode cX10_routes 18 = .ok (.getfield 38, 3) := by decide +kernel
theorem dX10_routes_21 : decode cX10_routes 21 = .ok (.bipush 40, 2) := by decide +kernel
theorem dX10_routes_23 : decode cX10_routes 23 = .ok (.iload 6, 2) := by decide +kernel
theorem dX10_routes_25 : decode cX10_routes 25 = .ok (.imul, 1) := by decide +kernel
theorem dX10_routes_26 : decode cX10_routes 26 = .ok (.iload 4, 2) := by decide +kernel
theorem dX10_routes_28 : decode cX10_routes 28 = .ok (.iadd, 1) := by decide +kernel
theorem dX10_routes_29 : decode cX10_routes 29 = .ok (.baload, 1) := by decide +kernel
theorem dX10_routes_30 : decode cX10_routes 30 = .ok (.ifCond .eq 22, 3) := by decide +kernel
theorem dX10_routes_33 : decode cX10_routes 33 = .ok (.iload 5, 2) := by decide +kernel
theorem dX10_routes_35 : decode cX10_routes 35 = .ok (.ifCond .eq 23, 3) := by decide +kernel
theorem dX10_routes_38 : decode cX10_routes 38 = .ok (.aload_n 0, 1) := by decide +kernel
theorem dX10_routes_39 : decode cX10_routes 39 = .ok (.iload_n 1, 1) := by decide +kernel
theorem dX10_routes_40 : decode cX10_routes 40 = .ok (.iload 4, 2) := by decide +kernel
theorem dX10_routes_42 : decode cX10_routes 42 = .ok (.iload 6, 2) := by decide +kernel
theorem dX10_routes_44 : decode cX10_routes 44 = .ok (.bipush 30, 2) := by decide +kernel
theorem dX10_routes_46 : decode cX10_routes 46 = .ok (.invokevirtual 112, 3) := by decide +kernel
theorem dX10_routes_49 : decode cX10_routes 49 = .ok (.ifCond .ne 9, 3) := by decide +kernel
theorem dX10_routes_52 : decode cX10_routes 52 = .ok (.iinc 6 1, 3) := by decide +kernel
theorem dX10_routes_55 : decode cX10_routes 55 = .ok (.goto (-45), 3) := by decide +kernel
theorem dX10_routes_58 : decode cX10_routes 58 = .ok (.iload 6, 2) := by decide +kernel
theorem dX10_routes_60 : decode cX10_routes 60 = .ok (.bipush 30, 2) := by decide +kernel
theorem dX10_routes_62 : decode cX10_routes 62 = .ok (.if_icmp .le 5, 3) := by decide +kernel
theorem dX10_routes_65 : decode cX10_routes 65 = .ok (.iconst 0, 1) := by decide +kernel
theorem dX10_routes_66 : decode cX10_routes 66 = .ok (.ireturn, 1) := by decide +kernel
theorem dX10_routes_67 : decode cX10_routes 67 = .ok (.aload_n 0, 1) := by decide +kernel
theorem dX10_routes_68 : decode cX10_routes 68 = .ok (.iload_n 1, 1) := by decide +kernel
theorem dX10_routes_69 : decode cX10_routes 69 = .ok (.iload 4, 2) := by decide +kernel
theorem dX10_routes_71 : decode cX10_routes 71 = .ok (.iload_n 3, 1) := by decide +kernel
theorem dX10_routes_72 : decode cX10_routes 72 = .ok (.iload 6, 2) := by decide +kernel
theorem dX10_routes_74 : decode cX10_routes 74 = .ok (.invokevirtual 115, 3) := by decide +kernel
theorem dX10_routes_77 : decode cX10_routes 77 = .ok (.aload_n 0, 1) := by decide +kernel
theorem dX10_routes_78 : decode cX10_routes 78 = .ok (.dup, 1) := by decide +kernel
theorem dX10_routes_79 : decode cX10_routes 79 = .ok (.getfield 119, 3) := by decide +kernel
theorem dX10_routes_82 : decode cX10_routes 82 = .ok (.aload_n 0, 1) := by decide +kernel
theorem dX10_routes_83 : decode cX10_routes 83 = .ok (.getfield 42, 3) := by decide +kernel
theorem dX10_routes_86 : decode cX10_routes 86 = .ok (.bipush 40, 2) := by decide +kernel
theorem dX10_routes_88 : decode cX10_routes 88 = .ok (.iload_n 3, 1) := by decide +kernel
theorem dX10_routes_89 : decode cX10_routes 89 = .ok (.imul, 1) := by decide +kernel
theorem dX10_routes_90 : decode cX10_routes 90 = .ok (.iload_n 2, 1) := by decide +kernel
theorem dX10_routes_91 : decode cX10_routes 91 = .ok (.iadd, 1) := by decide +kernel
theorem dX10_routes_92 : decode cX10_routes 92 = .ok (.iaload, 1) := by decide +kernel
theorem dX10_routes_93 : decode cX10_routes 93 = .ok (.iadd, 1) := by decide +kernel
theorem dX10_routes_94 : decode cX10_routes 94 = .ok (.putfield 119, 3) := by decide +kernel
theorem dX10_routes_97 : decode cX10_routes 97 = .ok (.iload_n 3, 1) := by decide +kernel
theorem dX10_routes_98 : decode cX10_routes 98 = .ok (.istore 7, 2) := by decide +kernel
theorem dX10_routes_100 : decode cX10_routes 100 = .ok (.iload_n 2, 1) := by decide +kernel
theorem dX10_routes_101 : decode cX10_routes 101 = .ok (.istore 8, 2) := by decide +kernel
theorem dX10_routes_103 : decode cX10_routes 103 = .ok (.iload 7, 2) := by decide +kernel
theorem dX10_routes_105 : decode cX10_routes 105 = .ok (.iload 6, 2) := by decide +kernel
theorem dX10_routes_107 : decode cX10_routes 107 = .ok (.if_icmp .ge 72, 3) := by decide +kernel
theorem dX10_routes_110 : decode cX10_routes 110 = .ok (.iconst 0, 1) := by decide +kernel
theorem dX10_routes_111 : decode cX10_routes 111 = .ok (.istore 9, 2) := by decide +kernel
theorem dX10_routes_113 : decode cX10_routes 113 = .ok (.aload_n 0, 1) := by decide +kernel
theorem dX10_routes_114 : decode cX10_routes 114 = .ok (.iload_n 1, 1) := by decide +kernel
theorem dX10_routes_115 : decode cX10_routes 115 = .ok (.iload 8, 2) := by decide +kernel
theorem dX10_routes_117 : decode cX10_routes 117 = .ok (.iload 9, 2) := by decide +kernel
theorem dX10_routes_119 : decode cX10_routes 119 = .ok (.iload 7, 2) := by decide +kernel
theorem dX10_routes_121 : decode cX10_routes 121 = .ok (.iload 6, 2) := by decide +kernel
theorem dX10_routes_123 : decode cX10_routes 123 = .ok (.invokevirtual 122, 3) := by decide +kernel
theorem dX10_routes_126 : decode cX10_routes 126 = .ok (.ifCond .ne 9, 3) := by decide +kernel
theorem dX10_routes_129 : decode cX10_routes 129 = .ok (.iinc 9 1, 3) := by decide +kernel
theorem dX10_routes_132 : decode cX10_routes 132 = .ok (.goto (-19), 3) := by decide +kernel
theorem dX10_routes_135 : decode cX10_routes 135 = .ok (.aload_n 0, 1) := by decide +kernel
theorem dX10_routes_136 : decode cX10_routes 136 = .ok (.getfield 45, 3) := by decide +kernel
theorem dX10_routes_139 : decode cX10_routes 139 = .ok (.aload_n 0, 1) := by decide +kernel
theorem dX10_routes_140 : decode cX10_routes 140 = .ok (.getfield 126, 3) := by decide +kernel
theorem dX10_routes_143 : decode cX10_routes 143 = .ok (.iload 9, 2) := by decide +kernel
theorem dX10_routes_145 : decode cX10_routes 145 = .ok (.iastore, 1) := by decide +kernel
theorem dX10_routes_146 : decode cX10_routes 146 = .ok (.aload_n 0, 1) := by decide +kernel
theorem dX10_routes_147 : decode cX10_routes 147 = .ok (.dup, 1) := by decide +kernel
theorem dX10_routes_148 : decode cX10_routes 148 = .ok (.getfield 126, 3) := by decide +kernel
theorem dX10_routes_151 : decode cX10_routes 151 = .ok (.iconst 1, 1) := by decide +kernel
theorem dX10_routes_152 : decode cX10_routes 152 = .ok (.iadd, 1) := by decide +kernel
theorem dX10_routes_153 : decode cX10_routes 153 = .ok (.putfield 126, 3) := by decide +kernel
theorem dX10_routes_156 : decode cX10_routes 156 = .ok (.aload_n 0, 1) := by decide +kernel
theorem dX10_routes_157 : decode cX10_routes 157 = .ok (.iload 8, 2) := by decide +kernel
theorem dX10_routes_159 : decode cX10_routes 159 = .ok (.iload 9, 2) := by decide +kernel
theorem dX10_routes_161 : decode cX10_routes 161 = .ok (.invokevirtual 72, 3) := by decide +kernel
theorem dX10_routes_164 : decode cX10_routes 164 = .ok (.istore 8, 2) := by decide +kernel
theorem dX10_routes_166 : decode cX10_routes 166 = .ok (.iload 7, 2) := by decide +kernel
theorem dX10_routes_168 : decode cX10_routes 168 = .ok (.iload 9, 2) := by decide +kernel
theorem dX10_routes_170 : decode cX10_routes 170 = .ok (.invokestatic 68, 3) := by decide +kernel
theorem dX10_routes_173 : decode cX10_routes 173 = .ok (.iadd, 1) := by decide +kernel
theorem dX10_routes_174 : decode cX10_routes 174 = .ok (.istore 7, 2) := by decide +kernel
theorem dX10_routes_176 : decode cX10_routes 176 = .ok (.goto (-73), 3) := by decide +kernel
theorem dX10_routes_179 : decode cX10_routes 179 = .ok (.aload_n 0, 1) := by decide +kernel
theorem dX10_routes_180 : decode cX10_routes 180 = .ok (.iload 6, 2) := by decide +kernel
theorem dX10_routes_182 : decode cX10_routes 182 = .ok (.putfield 129, 3) := by decide +kernel
theorem dX10_routes_185 : decode cX10_routes 185 = .ok (.iconst 1, 1) := by decide +kernel
theorem dX10_routes_186 : decode cX10_routes 186 = .ok (.ireturn, 1) := by decide +kernel
theorem dX10_isBest_0 : decode cX10_isBest 0 = .ok (.iload 4, 2) := by decide +kernel
theorem dX10_isBest_2 : decode cX10_isBest 2 = .ok (.iload_n 3, 1) := by decide +kernel
theorem dX10_isBest_3 : decode cX10_isBest 3 = .ok (.invokestatic 68, 3) := by decide +kernel
theorem dX10_isBest_6 : decode cX10_isBest 6 = .ok (.iadd, 1) := by decide +kernel
theorem dX10_isBest_7 : decode cX10_isBest 7 = .ok (.iload 5, 2) := by decide +kernel
theorem dX10_isBest_9 : decode cX10_isBest 9 = .ok (.if_icmp .gt 61, 3) := by decide +kernel
theorem dX10_isBest_12 : decode cX10_isBest 12 = .ok (.aload_n 0, 1) := by decide +kernel
theorem dX10_isBest_13 : decode cX10_isBest 13 = .ok (.iload_n 1, 1) := by decide +kernel
theorem dX10_isBest_14 : decode cX10_isBest 14 = .ok (.iload_n 2, 1) := by decide +kernel
theorem dX10_isBest_15 : decode cX10_isBest 15 = .ok (.iload_n 3, 1) := by decide +kernel
theorem dX10_isBest_16 : decode cX10_isBest 16 = .ok (.iload 4, 2) := by decide +kernel
theorem dX10_isBest_18 : decode cX10_isBest 18 = .ok (.invokevirtual 97, 3) := by decide +kernel
theorem dX10_isBest_21 : decode cX10_isBest 21 = .ok (.ifCond .eq 49, 3) := by decide +kernel
theorem dX10_isBest_24 : decode cX10_isBest 24 = .ok (.iload_n 3, 1) := by decide +kernel
theorem dX10_isBest_25 : decode cX10_isBest 25 = .ok (.invokestatic 101, 3) := by decide +kernel
theorem dX10_isBest_28 : decode cX10_isBest 28 = .ok (.aload_n 0, 1) := by decide +kernel
theorem dX10_isBest_29 : decode cX10_isBest 29 = .ok (.getfield 42, 3) := by decide +kernel
theorem dX10_isBest_32 : decode cX10_isBest 32 = .ok (.bipush 40, 2) := by decide +kernel
theorem dX10_isBest_34 : decode cX10_isBest 34 = .ok (.iload 4, 2) := by decide +kernel
theorem dX10_isBest_36 : decode cX10_isBest 36 = .ok (.iload_n 3, 1) := by decide +kernel
theorem dX10_isBest_37 : decode cX10_isBest 37 = .ok (.invokestatic 68, 3) := by decide +kernel
theorem dX10_isBest_40 : decode cX10_isBest 40 = .ok (.iadd, 1) := by decide +kernel
theorem dX10_isBest_41 : decode cX10_isBest 41 = .ok (.imul, 1) := by decide +kernel
theorem dX10_isBest_42 : decode cX10_isBest 42 = .ok (.aload_n 0, 1) := by decide +kernel
theorem dX10_isBest_43 : decode cX10_isBest 43 = .ok (.iload_n 2, 1) := by decide +kernel
theorem dX10_isBest_44 : decode cX10_isBest 44 = .ok (.iload_n 3, 1) := by decide +kernel
theorem dX10_isBest_45 : decode cX10_isBest 45 = .ok (.invokevirtual 72, 3) := by decide +kernel
theorem dX10_isBest_48 : decode cX10_isBest 48 = .ok (.iadd, 1) := by decide +kernel
theorem dX10_isBest_49 : decode cX10_isBest 49 = .ok (.iaload, 1) := by decide +kernel
theorem dX10_isBest_50 : decode cX10_isBest 50 = .ok (.iadd, 1) := by decide +kernel
theorem dX10_isBest_51 : decode cX10_isBest 51 = .ok (.aload_n 0, 1) := by decide +kernel
theorem dX10_isBest_52 : decode cX10_isBest 52 = .ok (.getfield 42, 3) := by decide +kernel
theorem dX10_isBest_55 : decode cX10_isBest 55 = .ok (.bipush 40, 2) := by decide +kernel
theorem dX10_isBest_57 : decode cX10_isBest 57 = .ok (.iload 4, 2) := by decide +kernel
theorem dX10_isBest_59 : decode cX10_isBest 59 = .ok (.imul, 1) := by decide +kernel
theorem dX10_isBest_60 : decode cX10_isBest 60 = .ok (.iload_n 2, 1) := by decide +kernel
theorem dX10_isBest_61 : decode cX10_isBest 61 = .ok (.iadd, 1) := by decide +kernel
theorem dX10_isBest_62 : decode cX10_isBest 62 = .ok (.iaload, 1) := by decide +kernel
theorem dX10_isBest_63 : decode cX10_isBest 63 = .ok (.if_icmp .ne 7, 3) := by decide +kernel
theorem dX10_isBest_66 : decode cX10_isBest 66 = .ok (.iconst 1, 1) := by decide +kernel
theorem dX10_isBest_67 : decode cX10_isBest 67 = .ok (.goto 4, 3) := by decide +kernel
theorem dX10_isBest_70 : decode cX10_isBest 70 = .ok (.iconst 0, 1) := by decide +kernel
theorem dX10_isBest_71 : decode cX10_isBest 71 = .ok (.ireturn, 1) := by decide +kernel
theorem dX10_begins_0 : decode cX10_begins 0 = .ok (.aload_n 0, 1) := by decide +kernel
theorem dX10_begins_1 : decode cX10_begins 1 = .ok (.iconst 0, 1) := by decide +kernel
theorem dX10_begins_2 : decode cX10_begins 2 = .ok (.putfield 126, 3) := by decide +kernel
theorem dX10_begins_5 : decode cX10_begins 5 = .ok (.aload_n 0, 1) := by decide +kernel
theorem dX10_begins_6 : decode cX10_begins 6 = .ok (.iconst 0, 1) := by decide +kernel
theorem dX10_begins_7 : decode cX10_begins 7 = .ok (.putfield 129, 3) := by decide +kernel
theorem dX10_begins_10 : decode cX10_begins 10 = .ok (.aload_n 0, 1) := by decide +kernel
theorem dX10_begins_11 : decode cX10_begins 11 = .ok (.iconst 0, 1) := by decide +kernel
theorem dX10_begins_12 : decode cX10_begins 12 = .ok (.putfield 119, 3) := by decide +kernel
theorem dX10_begins_15 : decode cX10_begins 15 = .ok (.return_, 1) := by decide +kernel
theorem dX10_hasRoute_0 : decode cX10_hasRoute 0 = .ok (.aload_n 0, 1) := by decide +kernel
theorem dX10_hasRoute_1 : decode cX10_hasRoute 1 = .ok (.invokevirtual 132, 3) := by decide +kernel
theorem dX10_hasRoute_4 : decode cX10_hasRoute 4 = .ok (.aload_n 0, 1) := by decide +kernel
theorem dX10_hasRoute_5 : decode cX10_hasRoute 5 = .ok (.invokevirtual 135, 3) := by decide +kernel
theorem dX10_hasRoute_8 : decode cX10_hasRoute 8 = .ok (.aload_n 0, 1) := by decide +kernel
theorem dX10_hasRoute_9 : decode cX10_hasRoute 9 = .ok (.iload_n 1, 1) := by decide +kernel
theorem dX10_hasRoute_10 : decode cX10_hasRoute 10 = .ok (.aload_n 0, 1) := by decide +kernel
theorem dX10_hasRoute_11 : decode cX10_hasRoute 11 = .ok (.iload_n 1, 1) := by decide +kernel
theorem dX10_hasRoute_12 : decode cX10_hasRoute 12 = .ok (.iconst 0, 1) := by decide +kernel
theorem dX10_hasRoute_13 : decode cX10_hasRoute 13 = .ok (.invokevirtual 58, 3) := by decide +kernel
theorem dX10_hasRoute_16 : decode cX10_hasRoute 16 = .ok (.iconst 0, 1) := by decide +kernel
theorem dX10_hasRoute_17 : decode cX10_hasRoute 17 = .ok (.iload_n 2, 1) := by decide +kernel
theorem dX10_hasRoute_18 : decode cX10_hasRoute 18 = .ok (.iconst 1, 1) := by decide +kernel
theorem dX10_hasRoute_19 : decode cX10_hasRoute 19 = .ok (.invokevirtual 138, 3) := by decide +kernel
theorem dX10_hasRoute_22 : decode cX10_hasRoute 22 = .ok (.ireturn, 1) := by decide +kernel
theorem dX10_reopens_0 : decode cX10_reopens 0 = .ok (.aload_n 0, 1) := by decide +kernel
theorem dX10_reopens_1 : decode cX10_reopens 1 = .ok (.iload_n 1, 1) := by decide +kernel
theorem dX10_reopens_2 : decode cX10_reopens 2 = .ok (.iconst 4, 1) := by decide +kernel
theorem dX10_reopens_3 : decode cX10_reopens 3 = .ok (.invokevirtual 58, 3) := by decide +kernel
theorem dX10_reopens_6 : decode cX10_reopens 6 = .ok (.istore_n 2, 1) := by decide +kernel
theorem dX10_reopens_7 : decode cX10_reopens 7 = .ok (.iload_n 2, 1) := by decide +kernel
theorem dX10_reopens_8 : decode cX10_reopens 8 = .ok (.iconst (-1), 1) := by decide +kernel
theorem dX10_reopens_9 : decode cX10_reopens 9 = .ok (.if_icmp .ne 4, 3) := by decide +kernel
theorem dX10_reopens_12 : decode cX10_reopens 12 = .ok (.return_, 1) := by decide +kernel
theorem dX10_reopens_13 : decode cX10_reopens 13 = .ok (.aload_n 0, 1) := by decide +kernel
theorem dX10_reopens_14 : decode cX10_reopens 14 = .ok (.iload_n 2, 1) := by decide +kernel
theorem dX10_reopens_15 : decode cX10_reopens 15 = .ok (.iconst 4, 1) := by decide +kernel
theorem dX10_reopens_16 : decode cX10_reopens 16 = .ok (.iconst 0, 1) := by decide +kernel
theorem dX10_reopens_17 : decode cX10_reopens 17 = .ok (.invokevirtual 142, 3) := by decide +kernel
theorem dX10_reopens_20 : decode cX10_reopens 20 = .ok (.aload_n 0, 1) := by decide +kernel
theorem dX10_reopens_21 : decode cX10_reopens 21 = .ok (.iload_n 2, 1) := by decide +kernel
theorem dX10_reopens_22 : decode cX10_reopens 22 = .ok (.bipush 6, 2) := by decide +kernel
theorem dX10_reopens_24 : decode cX10_reopens 24 = .ok (.iconst (-1), 1) := by decide +kernel
theorem dX10_reopens_25 : decode cX10_reopens 25 = .ok (.invokevirtual 142, 3) := by decide +kernel
theorem dX10_reopens_28 : decode cX10_reopens 28 = .ok (.aload_n 0, 1) := by decide +kernel
theorem dX10_reopens_29 : decode cX10_reopens 29 = .ok (.iload_n 1, 1) := by decide +kernel
theorem dX10_reopens_30 : decode cX10_reopens 30 = .ok (.iconst 4, 1) := by decide +kernel
theorem dX10_reopens_31 : decode cX10_reopens 31 = .ok (.iconst (-1), 1) := by decide +kernel
theorem dX10_reopens_32 : decode cX10_reopens 32 = .ok (.invokevirtual 145, 3) := by decide +kernel
theorem dX10_reopens_35 : decode cX10_reopens 35 = .ok (.return_, 1) := by decide +kernel
theorem dX10_follows_0 : decode cX10_follows 0 = .ok (.aload_n 0, 1) := by decide +kernel
theorem dX10_follows_1 : decode cX10_follows 1 = .ok (.iload_n 1, 1) := by decide +kernel
theorem dX10_follows_2 : decode cX10_follows 2 = .ok (.invokevirtual 148, 3) := by decide +kernel
theorem dX10_follows_5 : decode cX10_follows 5 = .ok (.aload_n 0, 1) := by decide +kernel
theorem dX10_follows_6 : decode cX10_follows 6 = .ok (.iload_n 1, 1) := by decide +kernel
theorem dX10_follows_7 : decode cX10_follows 7 = .ok (.iconst 2, 1) := by decide +kernel
theorem dX10_follows_8 : decode cX10_follows 8 = .ok (.aload_n 0, 1) := by decide +kernel
theorem dX10_follows_9 : decode cX10_follows 9 = .ok (.getfield 126, 3) := by decide +kernel
theorem dX10_follows_12 : decode cX10_follows 12 = .ok (.invokevirtual 145, 3) := by decide +kernel
theorem dX10_follows_15 : decode cX10_follows 15 = .ok (.iconst 0, 1) := by decide +kernel
theorem dX10_follows_16 : decode cX10_follows 16 = .ok (.istore_n 2, 1) := by decide +kernel
theorem dX10_follows_17 : decode cX10_follows 17 = .ok (.iload_n 2, 1) := by decide +kernel
theorem dX10_follows_18 : decode cX10_follows 18 = .ok (.aload_n 0, 1) := by decide +kernel
theorem dX10_follows_19 : decode cX10_follows 19 = .ok (.getfield 126, 3) := by decide +kernel
theorem dX10_follows_22 : decode cX10_follows 22 = .ok (.if_icmp .ge 24, 3) := by decide +kernel
theorem dX10_follows_25 : decode cX10_follows 25 = .ok (.aload_n 0, 1) := by decide +kernel
theorem dX10_follows_26 : decode cX10_follows 26 = .ok (.iload_n 1, 1) := by decide +kernel
theorem dX10_follows_27 : decode cX10_follows 27 = .ok (.bipush 11, 2) := by decide +kernel
theorem dX10_follows_29 : decode cX10_follows 29 = .ok (.iload_n 2, 1) := by decide +kernel
theorem dX10_follows_30 : decode cX10_follows 30 = .ok (.iadd, 1) := by decide +kernel
theorem dX10_follows_31 : decode cX10_follows 31 = .ok (.aload_n 0, 1) := by decide +kernel
theorem dX10_follows_32 : decode cX10_follows 32 = .ok (.getfield 45, 3) := by decide +kernel
theorem dX10_follows_35 : decode cX10_follows 35 = .ok (.iload_n 2, 1) := by decide +kernel
theorem dX10_follows_36 : decode cX10_follows 36 = .ok (.iaload, 1) := by decide +kernel
theorem dX10_follows_37 : decode cX10_follows 37 = .ok (.invokevirtual 145, 3) := by decide +kernel
theorem dX10_follows_40 : decode cX10_follows 40 = .ok (.iinc 2 1, 3) := by decide +kernel
theorem dX10_follows_43 : decode cX10_follows 43 = .ok (.goto (-26), 3) := by decide +kernel
theorem dX10_follows_46 : decode cX10_follows 46 = .ok (.return_, 1) := by decide +kernel
theorem dX10_canPlan_0 : decode cX10_canPlan 0 = .ok (.aload_n 0, 1) := by decide +kernel
theorem dX10_canPlan_1 : decode cX10_canPlan 1 = .ok (.iload_n 1, 1) := by decide +kernel
theorem dX10_canPlan_2 : decode cX10_canPlan 2 = .ok (.invokevirtual 151, 3) := by decide +kernel
theorem dX10_canPlan_5 : decode cX10_canPlan 5 = .ok (.ifCond .ne 29, 3) := by decide +kernel
theorem dX10_canPlan_8 : decode cX10_canPlan 8 = .ok (.aload_n 0, 1) := by decide +kernel
theorem dX10_canPlan_9 : decode cX10_canPlan 9 = .ok (.iload_n 1, 1) := by decide +kernel
theorem dX10_canPlan_10 : decode cX10_canPlan 10 = .ok (.iload_n 2, 1) := by decide +kernel
theorem dX10_canPlan_11 : decode cX10_canPlan 11 = .ok (.invokevirtual 154, 3) := by decide +kernel
theorem dX10_canPlan_14 : decode cX10_canPlan 14 = .ok (.ifCond .eq 20, 3) := by decide +kernel
theorem dX10_canPlan_17 : decode cX10_canPlan 17 = .ok (.aload_n 0, 1) := by decide +kernel
theorem dX10_canPlan_18 : decode cX10_canPlan 18 = .ok (.getfield 119, 3) := by decide +kernel
theorem dX10_canPlan_21 : decode cX10_canPlan 21 = .ok (.aload_n 0, 1) := by decide +kernel
theorem dX10_canPlan_22 : decode cX10_canPlan 22 = .ok (.iload_n 1, 1) := by decide +kernel
theorem dX10_canPlan_23 : decode cX10_canPlan 23 = .ok (.iconst 1, 1) := by decide +kernel
theorem dX10_canPlan_24 : decode cX10_canPlan 24 = .ok (.invokevirtual 58, 3) := by decide +kernel
theorem dX10_canPlan_27 : decode cX10_canPlan 27 = .ok (.if_icmp .gt 7, 3) := by decide +kernel
theorem dX10_canPlan_30 : decode cX10_canPlan 30 = .ok (.iconst 1, 1) := by decide +kernel
theorem dX10_canPlan_31 : decode cX10_canPlan 31 = .ok (.goto 4, 3) := by decide +kernel
theorem dX10_canPlan_34 : decode cX10_canPlan 34 = .ok (.iconst 0, 1) := by decide +kernel
theorem dX10_canPlan_35 : decode cX10_canPlan 35 = .ok (.ireturn, 1) := by decide +kernel
theorem dX10_clears_0 : decode cX10_clears 0 = .ok (.iconst 0, 1) := by decide +kernel
theorem dX10_clears_1 : decode cX10_clears 1 = .ok (.istore_n 1, 1) := by decide +kernel
theorem dX10_clears_2 : decode cX10_clears 2 = .ok (.iload_n 1, 1) := by decide +kernel
theorem dX10_clears_3 : decode cX10_clears 3 = .ok (.sipush 406, 3) := by decide +kernel
theorem dX10_clears_6 : decode cX10_clears 6 = .ok (.if_icmp .ge 16, 3) := by decide +kernel
theorem dX10_clears_9 : decode cX10_clears 9 = .ok (.aload_n 0, 1) := by decide +kernel
theorem dX10_clears_10 : decode cX10_clears 10 = .ok (.getfield 7, 3) := by decide +kernel
theorem dX10_clears_13 : decode cX10_clears 13 = .ok (.iload_n 1, 1) := by decide +kernel
theorem dX10_clears_14 : decode cX10_clears 14 = .ok (.iconst 0, 1) := by decide +kernel
theorem dX10_clears_15 : decode cX10_clears 15 = .ok (.iastore, 1) := by decide +kernel
theorem dX10_clears_16 : decode cX10_clears 16 = .ok (.iinc 1 1, 3) := by decide +kernel
theorem dX10_clears_19 : decode cX10_clears 19 = .ok (.goto (-17), 3) := by decide +kernel
theorem dX10_clears_22 : decode cX10_clears 22 = .ok (.return_, 1) := by decide +kernel
theorem dX10_clear_0 : decode cX10_clear 0 = .ok (.aload_n 0, 1) := by decide +kernel
theorem dX10_clear_1 : decode cX10_clear 1 = .ok (.iconst 0, 1) := by decide +kernel
theorem dX10_clear_2 : decode cX10_clear 2 = .ok (.putfield 51, 3) := by decide +kernel
theorem dX10_clear_5 : decode cX10_clear 5 = .ok (.aload_n 0, 1) := by decide +kernel
theorem dX10_clear_6 : decode cX10_clear 6 = .ok (.getfield 7, 3) := by decide +kernel
theorem dX10_clear_9 : decode cX10_clear 9 = .ok (.bipush 6, 2) := by decide +kernel
theorem dX10_clear_11 : decode cX10_clear 11 = .ok (.iaload, 1) := by decide +kernel
theorem dX10_clear_12 : decode cX10_clear 12 = .ok (.istore_n 1, 1) := by decide +kernel
theorem dX10_clear_13 : decode cX10_clear 13 = .ok (.aload_n 0, 1) := by decide +kernel
theorem dX10_clear_14 : decode cX10_clear 14 = .ok (.invokevirtual 158, 3) := by decide +kernel
theorem dX10_clear_17 : decode cX10_clear 17 = .ok (.iload_n 1, 1) := by decide +kernel
theorem dX10_clear_18 : decode cX10_clear 18 = .ok (.ireturn, 1) := by decide +kernel
theorem dX10_isUsed_0 : decode cX10_isUsed 0 = .ok (.aload_n 0, 1) := by decide +kernel
theorem dX10_isUsed_1 : decode cX10_isUsed 1 = .ok (.invokevirtual 132, 3) := by decide +kernel
theorem dX10_isUsed_4 : decode cX10_isUsed 4 = .ok (.iconst 0, 1) := by decide +kernel
theorem dX10_isUsed_5 : decode cX10_isUsed 5 = .ok (.istore_n 2, 1) := by decide +kernel
theorem dX10_isUsed_6 : decode cX10_isUsed 6 = .ok (.iconst 0, 1) := by decide +kernel
theorem dX10_isUsed_7 : decode cX10_isUsed 7 = .ok (.istore_n 3, 1) := by decide +kernel
theorem dX10_isUsed_8 : decode cX10_isUsed 8 = .ok (.iload_n 3, 1) := by decide +kernel
theorem dX10_isUsed_9 : decode cX10_isUsed 9 = .ok (.bipush 31, 2) := by decide +kernel
theorem dX10_isUsed_11 : decode cX10_isUsed 11 = .ok (.aload_n 0, 1) := by decide +kernel
theorem dX10_isUsed_12 : decode cX10_isUsed 12 = .ok (.getfield 7, 3) := by decide +kernel
theorem dX10_isUsed_15 : decode cX10_isUsed 15 = .ok (.bipush 6, 2) := by decide +kernel
theorem dX10_isUsed_17 : decode cX10_isUsed 17 = .ok (.iaload, 1) := by decide +kernel
theorem dX10_isUsed_18 : decode cX10_isUsed 18 = .ok (.imul, 1) := by decide +kernel
theorem dX10_isUsed_19 : decode cX10_isUsed 19 = .ok (.if_icmp .ge 29, 3) := by decide +kernel
theorem dX10_isUsed_22 : decode cX10_isUsed 22 = .ok (.iload_n 2, 1) := by decide +kernel
theorem dX10_isUsed_23 : decode cX10_isUsed 23 = .ok (.ifCond .ne 13, 3) := by decide +kernel
theorem dX10_isUsed_26 : decode cX10_isUsed 26 = .ok (.aload_n 0, 1) := by decide +kernel
theorem dX10_isUsed_27 : decode cX10_isUsed 27 = .ok (.getfield 29, 3) := by decide +kernel
theorem dX10_isUsed_30 : decode cX10_isUsed 30 = .ok (.iload_n 3, 1) := by decide +kernel
theorem dX10_isUsed_31 : decode cX10_isUsed 31 = .ok (.iaload, 1) := by decide +kernel
theorem dX10_isUsed_32 : decode cX10_isUsed 32 = .ok (.iload_n 1, 1) := by decide +kernel
theorem dX10_isUsed_33 : decode cX10_isUsed 33 = .ok (.if_icmp .ne 7, 3) := by decide +kernel
theorem dX10_isUsed_36 : decode cX10_isUsed 36 = .ok (.iconst 1, 1) := by decide +kernel
theorem dX10_isUsed_37 : decode cX10_isUsed 37 = .ok (.goto 4, 3) := by decide +kernel
theorem dX10_isUsed_40 : decode cX10_isUsed 40 = .ok (.iconst 0, 1) := by decide +kernel
theorem dX10_isUsed_41 : decode cX10_isUsed 41 = .ok (.istore_n 2, 1) := by decide +kernel
theorem dX10_isUsed_42 : decode cX10_isUsed 42 = .ok (.iinc 3 1, 3) := by decide +kernel
theorem dX10_isUsed_45 : decode cX10_isUsed 45 = .ok (.goto (-37), 3) := by decide +kernel
theorem dX10_isUsed_48 : decode cX10_isUsed 48 = .ok (.iload_n 2, 1) := by decide +kernel
theorem dX10_isUsed_49 : decode cX10_isUsed 49 = .ok (.ireturn, 1) := by decide +kernel
theorem dX10_setCell_0 : decode cX10_setCell 0 = .ok (.aload_n 0, 1) := by decide +kernel
theorem dX10_setCell_1 : decode cX10_setCell 1 = .ok (.iconst 0, 1) := by decide +kernel
theorem dX10_setCell_2 : decode cX10_setCell 2 = .ok (.putfield 51, 3) := by decide +kernel
theorem dX10_setCell_5 : decode cX10_setCell 5 = .ok (.iload_n 1, 1) := by decide +kernel
theorem dX10_setCell_6 : decode cX10_setCell 6 = .ok (.invokestatic 161, 3) := by decide +kernel
theorem dX10_setCell_9 : decode cX10_setCell 9 = .ok (.ifCond .ne 9, 3) := by decide +kernel
theorem dX10_setCell_12 : decode cX10_setCell 12 = .ok (.aload_n 0, 1) := by decide +kernel
theorem dX10_setCell_13 : decode cX10_setCell 13 = .ok (.iconst 1, 1) := by decide +kernel
theorem dX10_setCell_14 : decode cX10_setCell 14 = .ok (.invokevirtual 164, 3) := by decide +kernel
theorem dX10_setCell_17 : decode cX10_setCell 17 = .ok (.ireturn, 1) := by decide +kernel
theorem dX10_setCell_18 : decode cX10_setCell 18 = .ok (.iload_n 2, 1) := by decide +kernel
theorem dX10_setCell_19 : decode cX10_setCell 19 = .ok (.iconst 0, 1) := by decide +kernel
theorem dX10_setCell_20 : decode cX10_setCell 20 = .ok (.iconst 2, 1) := by decide +kernel
theorem dX10_setCell_21 : decode cX10_setCell 21 = .ok (.invokestatic 54, 3) := by decide +kernel
theorem dX10_setCell_24 : decode cX10_setCell 24 = .ok (.ifCond .ne 9, 3) := by decide +kernel
theorem dX10_setCell_27 : decode cX10_setCell 27 = .ok (.aload_n 0, 1) := by decide +kernel
theorem dX10_setCell_28 : decode cX10_setCell 28 = .ok (.iconst 2, 1) := by decide +kernel
theorem dX10_setCell_29 : decode cX10_setCell 29 = .ok (.invokevirtual 164, 3) := by decide +kernel
theorem dX10_setCell_32 : decode cX10_setCell 32 = .ok (.ireturn, 1) := by decide +kernel
theorem dX10_setCell_33 : decode cX10_setCell 33 = .ok (.iload_n 2, 1) := by decide +kernel
theorem dX10_setCell_34 : decode cX10_setCell 34 = .ok (.iconst 1, 1) := by decide +kernel
theorem dX10_setCell_35 : decode cX10_setCell 35 = .ok (.if_icmp .ne 25, 3) := by decide +kernel
theorem dX10_setCell_38 : decode cX10_setCell 38 = .ok (.aload_n 0, 1) := by decide +kernel
theorem dX10_setCell_39 : decode cX10_setCell 39 = .ok (.iload_n 1, 1) := by decide +kernel
theorem dX10_setCell_40 : decode cX10_setCell 40 = .ok (.invokevirtual 167, 3) := by decide +kernel
theorem dX10_setCell_43 : decode cX10_setCell 43 = .ok (.ifCond .ne 11, 3) := by decide +kernel
theorem dX10_setCell_46 : decode cX10_setCell 46 = .ok (.aload_n 0, 1) := by decide +kernel
theorem dX10_setCell_47 : decode cX10_setCell 47 = .ok (.iload_n 1, 1) := by decide +kernel
theorem dX10_setCell_48 : decode cX10_setCell 48 = .ok (.invokevirtual 170, 3) := by decide +kernel
theorem dX10_setCell_51 : decode cX10_setCell 51 = .ok (.ifCond .eq 9, 3) := by decide +kernel
theorem dX10_setCell_54 : decode cX10_setCell 54 = .ok (.aload_n 0, 1) := by decide +kernel
theorem dX10_setCell_55 : decode cX10_setCell 55 = .ok (.iconst 3, 1) := by decide +kernel
theorem dX10_setCell_56 : decode cX10_setCell 56 = .ok (.invokevirtual 164, 3) := by decide +kernel
theorem dX10_setCell_59 : decode cX10_setCell 59 = .ok (.ireturn, 1) := by decide +kernel
theorem dX10_setCell_60 : decode cX10_setCell 60 = .ok (.aload_n 0, 1) := by decide +kernel
theorem dX10_setCell_61 : decode cX10_setCell 61 = .ok (.getfield 7, 3) := by decide +kernel
theorem dX10_setCell_64 : decode cX10_setCell 64 = .ok (.bipush 8, 2) := by decide +kernel
theorem dX10_setCell_66 : decode cX10_setCell 66 = .ok (.iload_n 1, 1) := by decide +kernel
theorem dX10_setCell_67 : decode cX10_setCell 67 = .ok (.iadd, 1) := by decide +kernel
theorem dX10_setCell_68 : decode cX10_setCell 68 = .ok (.iaload, 1) := by decide +kernel
theorem dX10_setCell_69 : decode cX10_setCell 69 = .ok (.istore_n 3, 1) := by decide +kernel
theorem dX10_setCell_70 : decode cX10_setCell 70 = .ok (.aload_n 0, 1) := by decide +kernel
theorem dX10_setCell_71 : decode cX10_setCell 71 = .ok (.getfield 7, 3) := by decide +kernel
theorem dX10_setCell_74 : decode cX10_setCell 74 = .ok (.bipush 8, 2) := by decide +kernel
theorem dX10_setCell_76 : decode cX10_setCell 76 = .ok (.iload_n 1, 1) := by decide +kernel
theorem dX10_setCell_77 : decode cX10_setCell 77 = .ok (.iadd, 1) := by decide +kernel
theorem dX10_setCell_78 : decode cX10_setCell 78 = .ok (.iload_n 2, 1) := by decide +kernel
theorem dX10_setCell_79 : decode cX10_setCell 79 = .ok (.iastore, 1) := by decide +kernel
theorem dX10_setCell_80 : decode cX10_setCell 80 = .ok (.iload_n 3, 1) := by decide +kernel
theorem dX10_setCell_81 : decode cX10_setCell 81 = .ok (.ireturn, 1) := by decide +kernel
theorem dX10_cell_0 : decode cX10_cell 0 = .ok (.aload_n 0, 1) := by decide +kernel
theorem dX10_cell_1 : decode cX10_cell 1 = .ok (.iconst 0, 1) := by decide +kernel
theorem dX10_cell_2 : decode cX10_cell 2 = .ok (.putfield 51, 3) := by decide +kernel
theorem dX10_cell_5 : decode cX10_cell 5 = .ok (.iload_n 1, 1) := by decide +kernel
theorem dX10_cell_6 : decode cX10_cell 6 = .ok (.invokestatic 161, 3) := by decide +kernel
theorem dX10_cell_9 : decode cX10_cell 9 = .ok (.ifCond .eq 15, 3) := by decide +kernel
theorem dX10_cell_12 : decode cX10_cell 12 = .ok (.aload_n 0, 1) := by decide +kernel
theorem dX10_cell_13 : decode cX10_cell 13 = .ok (.getfield 7, 3) := by decide +kernel
theorem dX10_cell_16 : decode cX10_cell 16 = .ok (.bipush 8, 2) := by decide +kernel
theorem dX10_cell_18 : decode cX10_cell 18 = .ok (.iload_n 1, 1) := by decide +kernel
theorem dX10_cell_19 : decode cX10_cell 19 = .ok (.iadd, 1) := by decide +kernel
theorem dX10_cell_20 : decode cX10_cell 20 = .ok (.iaload, 1) := by decide +kernel
theorem dX10_cell_21 : decode cX10_cell 21 = .ok (.goto 8, 3) := by decide +kernel
theorem dX10_cell_24 : decode cX10_cell 24 = .ok (.aload_n 0, 1) := by decide +kernel
theorem dX10_cell_25 : decode cX10_cell 25 = .ok (.iconst 1, 1) := by decide +kernel
theorem dX10_cell_26 : decode cX10_cell 26 = .ok (.invokevirtual 164, 3) := by decide +kernel
theorem dX10_cell_29 : decode cX10_cell 29 = .ok (.ireturn, 1) := by decide +kernel
theorem dX10_addLift_0 : decode cX10_addLift 0 = .ok (.aload_n 0, 1) := by decide +kernel
theorem dX10_addLift_1 : decode cX10_addLift 1 = .ok (.iconst 0, 1) := by decide +kernel
theorem dX10_addLift_2 : decode cX10_addLift 2 = .ok (.putfield 51, 3) := by decide +kernel
theorem dX10_addLift_5 : decode cX10_addLift 5 = .ok (.iload_n 1, 1) := by decide +kernel
theorem dX10_addLift_6 : decode cX10_addLift 6 = .ok (.invokestatic 161, 3) := by decide +kernel
theorem dX10_addLift_9 : decode cX10_addLift 9 = .ok (.ifCond .eq 10, 3) := by decide +kernel
theorem dX10_addLift_12 : decode cX10_addLift 12 = .ok (.iload_n 2, 1) := by decide +kernel
theorem dX10_addLift_13 : decode cX10_addLift 13 = .ok (.invokestatic 161, 3) := by decide +kernel
theorem dX10_addLift_16 : decode cX10_addLift 16 = .ok (.ifCond .ne 9, 3) := by decide +kernel
theorem dX10_addLift_19 : decode cX10_addLift 19 = .ok (.aload_n 0, 1) := by decide +kernel
theorem dX10_addLift_20 : decode cX10_addLift 20 = .ok (.iconst 1, 1) := by decide +kernel
theorem dX10_addLift_21 : decode cX10_addLift 21 = .ok (.invokevirtual 164, 3) := by decide +kernel
theorem dX10_addLift_24 : decode cX10_addLift 24 = .ok (.ireturn, 1) := by decide +kernel
theorem dX10_addLift_25 : decode cX10_addLift 25 = .ok (.iload_n 1, 1) := by decide +kernel
theorem dX10_addLift_26 : decode cX10_addLift 26 = .ok (.iload_n 2, 1) := by decide +kernel
theorem dX10_addLift_27 : decode cX10_addLift 27 = .ok (.if_icmp .eq 35, 3) := by decide +kernel
theorem dX10_addLift_30 : decode cX10_addLift 30 = .ok (.aload_n 0, 1) := by decide +kernel
theorem dX10_addLift_31 : decode cX10_addLift 31 = .ok (.iload_n 1, 1) := by decide +kernel
theorem dX10_addLift_32 : decode cX10_addLift 32 = .ok (.invokevirtual 79, 3) := by decide +kernel
theorem dX10_addLift_35 : decode cX10_addLift 35 = .ok (.ifCond .ne 27, 3) := by decide +kernel
theorem dX10_addLift_38 : decode cX10_addLift 38 = .ok (.aload_n 0, 1) := by decide +kernel
theorem dX10_addLift_39 : decode cX10_addLift 39 = .ok (.iload_n 2, 1) := by decide +kernel
theorem dX10_addLift_40 : decode cX10_addLift 40 = .ok (.invokevirtual 79, 3) := by decide +kernel
theorem dX10_addLift_43 : decode cX10_addLift 43 = .ok (.ifCond .ne 19, 3) := by decide +kernel
theorem dX10_addLift_46 : decode cX10_addLift 46 = .ok (.aload_n 0, 1) := by decide +kernel
theorem dX10_addLift_47 : decode cX10_addLift 47 = .ok (.iload_n 1, 1) := by decide +kernel
theorem dX10_addLift_48 : decode cX10_addLift 48 = .ok (.invokevirtual 170, 3) := by decide +kernel
theorem dX10_addLift_51 : decode cX10_addLift 51 = .ok (.ifCond .ne 11, 3) := by decide +kernel
theorem dX10_addLift_54 : decode cX10_addLift 54 = .ok (.aload_n 0, 1) := by decide +kernel
theorem dX10_addLift_55 : decode cX10_addLift 55 = .ok (.iload_n 2, 1) := by decide +kernel
theorem dX10_addLift_56 : decode cX10_addLift 56 = .ok (.invokevirtual 170, 3) := by decide +kernel
theorem dX10_addLift_59 : decode cX10_addLift 59 = .ok (.ifCond .eq 9, 3) := by decide +kernel
theorem dX10_addLift_62 : decode cX10_addLift 62 = .ok (.aload_n 0, 1) := by decide +kernel
theorem dX10_addLift_63 : decode cX10_addLift 63 = .ok (.iconst 2, 1) := by decide +kernel
theorem dX10_addLift_64 : decode cX10_addLift 64 = .ok (.invokevirtual 164, 3) := by decide +kernel
theorem dX10_addLift_67 : decode cX10_addLift 67 = .ok (.ireturn, 1) := by decide +kernel
theorem dX10_addLift_68 : decode cX10_addLift 68 = .ok (.aload_n 0, 1) := by decide +kernel
theorem dX10_addLift_69 : decode cX10_addLift 69 = .ok (.getfield 7, 3) := by decide +kernel
theorem dX10_addLift_72 : decode cX10_addLift 72 = .ok (.iconst 1, 1) := by decide +kernel
theorem dX10_addLift_73 : decode cX10_addLift 73 = .ok (.iaload, 1) := by decide +kernel
theorem dX10_addLift_74 : decode cX10_addLift 74 = .ok (.iconst 2, 1) := by decide +kernel
theorem dX10_addLift_75 : decode cX10_addLift 75 = .ok (.if_icmp .ne 9, 3) := by decide +kernel
theorem dX10_addLift_78 : decode cX10_addLift 78 = .ok (.aload_n 0, 1) := by decide +kernel
theorem dX10_addLift_79 : decode cX10_addLift 79 = .ok (.iconst 3, 1) := by decide +kernel
theorem dX10_addLift_80 : decode cX10_addLift 80 = .ok (.invokevirtual 164, 3) := by decide +kernel
theorem dX10_addLift_83 : decode cX10_addLift 83 = .ok (.ireturn, 1) := by decide +kernel
theorem dX10_addLift_84 : decode cX10_addLift 84 = .ok (.aload_n 0, 1) := by decide +kernel
theorem dX10_addLift_85 : decode cX10_addLift 85 = .ok (.getfield 7, 3) := by decide +kernel
theorem dX10_addLift_88 : decode cX10_addLift 88 = .ok (.iconst 2, 1) := by decide +kernel
theorem dX10_addLift_89 : decode cX10_addLift 89 = .ok (.iconst 2, 1) := by decide +kernel
theorem dX10_addLift_90 : decode cX10_addLift 90 = .ok (.aload_n 0, 1) := by decide +kernel
theorem dX10_addLift_91 : decode cX10_addLift 91 = .ok (.getfield 7, 3) := by decide +kernel
theorem dX10_addLift_94 : decode cX10_addLift 94 = .ok (.iconst 1, 1) := by decide +kernel
theorem dX10_addLift_95 : decode cX10_addLift 95 = .ok (.iaload, 1) := by decide +kernel
theorem dX10_addLift_96 : decode cX10_addLift 96 = .ok (.imul, 1) := by decide +kernel
theorem dX10_addLift_97 : decode cX10_addLift 97 = .ok (.iadd, 1) := by decide +kernel
theorem dX10_addLift_98 : decode cX10_addLift 98 = .ok (.iload_n 1, 1) := by decide +kernel
theorem dX10_addLift_99 : decode cX10_addLift 99 = .ok (.iastore, 1) := by decide +kernel
theorem dX10_addLift_100 : decode cX10_addLift 100 = .ok (.aload_n 0, 1) := by decide +kernel
theorem dX10_addLift_101 : decode cX10_addLift 101 = .ok (.getfield 7, 3) := by decide +kernel
theorem dX10_addLift_104 : decode cX10_addLift 104 = .ok (.iconst 2, 1) := by decide +kernel
theorem dX10_addLift_105 : decode cX10_addLift 105 = .ok (.iconst 2, 1) := by decide +kernel
theorem dX10_addLift_106 : decode cX10_addLift 106 = .ok (.aload_n 0, 1) := by decide +kernel
theorem dX10_addLift_107 : decode cX10_addLift 107 = .ok (.getfield 7, 3) := by decide +kernel
theorem dX10_addLift_110 : decode cX10_addLift 110 = .ok (.iconst 1, 1) := by decide +kernel
theorem dX10_addLift_111 : decode cX10_addLift 111 = .ok (.iaload, 1) := by decide +kernel
theorem dX10_addLift_112 : decode cX10_addLift 112 = .ok (.imul, 1) := by decide +kernel
theorem dX10_addLift_113 : decode cX10_addLift 113 = .ok (.iadd, 1) := by decide +kernel
theorem dX10_addLift_114 : decode cX10_addLift 114 = .ok (.iconst 1, 1) := by decide +kernel
theorem dX10_addLift_115 : decode cX10_addLift 115 = .ok (.iadd, 1) := by decide +kernel
theorem dX10_addLift_116 : decode cX10_addLift 116 = .ok (.iload_n 2, 1) := by decide +kernel
theorem dX10_addLift_117 : decode cX10_addLift 117 = .ok (.iastore, 1) := by decide +kernel
theorem dX10_addLift_118 : decode cX10_addLift 118 = .ok (.aload_n 0, 1) := by decide +kernel
theorem dX10_addLift_119 : decode cX10_addLift 119 = .ok (.getfield 7, 3) := by decide +kernel
theorem dX10_addLift_122 : decode cX10_addLift 122 = .ok (.iconst 1, 1) := by decide +kernel
theorem dX10_addLift_123 : decode cX10_addLift 123 = .ok (.dup2, 1) := by decide +kernel
theorem dX10_addLift_124 : decode cX10_addLift 124 = .ok (.iaload, 1) := by decide +kernel
theorem dX10_addLift_125 : decode cX10_addLift 125 = .ok (.iconst 1, 1) := by decide +kernel
theorem dX10_addLift_126 : decode cX10_addLift 126 = .ok (.iadd, 1) := by decide +kernel
theorem dX10_addLift_127 : decode cX10_addLift 127 = .ok (.iastore, 1) := by decide +kernel
theorem dX10_addLift_128 : decode cX10_addLift 128 = .ok (.aload_n 0, 1) := by decide +kernel
theorem dX10_addLift_129 : decode cX10_addLift 129 = .ok (.getfield 7, 3) := by decide +kernel
theorem dX10_addLift_132 : decode cX10_addLift 132 = .ok (.iconst 1, 1) := by decide +kernel
theorem dX10_addLift_133 : decode cX10_addLift 133 = .ok (.iaload, 1) := by decide +kernel
theorem dX10_addLift_134 : decode cX10_addLift 134 = .ok (.iconst 1, 1) := by decide +kernel
theorem dX10_addLift_135 : decode cX10_addLift 135 = .ok (.isub, 1) := by decide +kernel
theorem dX10_addLift_136 : decode cX10_addLift 136 = .ok (.ireturn, 1) := by decide +kernel
theorem dX10_addRobot_0 : decode cX10_addRobot 0 = .ok (.aload_n 0, 1) := by decide +kernel
theorem dX10_addRobot_1 : decode cX10_addRobot 1 = .ok (.iconst 0, 1) := by decide +kernel
theorem dX10_addRobot_2 : decode cX10_addRobot 2 = .ok (.putfield 51, 3) := by decide +kernel
theorem dX10_addRobot_5 : decode cX10_addRobot 5 = .ok (.iload_n 1, 1) := by decide +kernel
theorem dX10_addRobot_6 : decode cX10_addRobot 6 = .ok (.invokestatic 161, 3) := by decide +kernel
theorem dX10_addRobot_9 : decode cX10_addRobot 9 = .ok (.ifCond .ne 9, 3) := by decide +kernel
theorem dX10_addRobot_12 : decode cX10_addRobot 12 = .ok (.aload_n 0, 1) := by decide +kernel
theorem dX10_addRobot_13 : decode cX10_addRobot 13 = .ok (.iconst 1, 1) := by decide +kernel
theorem dX10_addRobot_14 : decode cX10_addRobot 14 = .ok (.invokevirtual 164, 3) := by decide +kernel
theorem dX10_addRobot_17 : decode cX10_addRobot 17 = .ok (.ireturn, 1) := by decide +kernel
theorem dX10_addRobot_18 : decode cX10_addRobot 18 = .ok (.iload_n 2, 1) := by decide +kernel
theorem dX10_addRobot_19 : decode cX10_addRobot 19 = .ok (.iconst 0, 1) := by decide +kernel
theorem dX10_addRobot_20 : decode cX10_addRobot 20 = .ok (.bipush 100, 2) := by decide +kernel
theorem dX10_addRobot_22 : decode cX10_addRobot 22 = .ok (.invokestatic 54, 3) := by decide +kernel
theorem dX10_addRobot_25 : decode cX10_addRobot 25 = .ok (.ifCond .eq 11, 3) := by decide +kernel
theorem dX10_addRobot_28 : decode cX10_addRobot 28 = .ok (.aload_n 0, 1) := by decide +kernel
theorem dX10_addRobot_29 : decode cX10_addRobot 29 = .ok (.iload_n 1, 1) := by decide +kernel
theorem dX10_addRobot_30 : decode cX10_addRobot 30 = .ok (.invokevirtual 79, 3) := by decide +kernel
theorem dX10_addRobot_33 : decode cX10_addRobot 33 = .ok (.ifCond .eq 9, 3) := by decide +kernel
theorem dX10_addRobot_36 : decode cX10_addRobot 36 = .ok (.aload_n 0, 1) := by decide +kernel
theorem dX10_addRobot_37 : decode cX10_addRobot 37 = .ok (.iconst 2, 1) := by decide +kernel
theorem dX10_addRobot_38 : decode cX10_addRobot 38 = .ok (.invokevirtual 164, 3) := by decide +kernel
theorem dX10_addRobot_41 : decode cX10_addRobot 41 = .ok (.ireturn, 1) := by decide +kernel
theorem dX10_addRobot_42 : decode cX10_addRobot 42 = .ok (.aload_n 0, 1) := by decide +kernel
theorem dX10_addRobot_43 : decode cX10_addRobot 43 = .ok (.getfield 7, 3) := by decide +kernel
theorem dX10_addRobot_46 : decode cX10_addRobot 46 = .ok (.bipush 6, 2) := by decide +kernel
theorem dX10_addRobot_48 : decode cX10_addRobot 48 = .ok (.iaload, 1) := by decide +kernel
theorem dX10_addRobot_49 : decode cX10_addRobot 49 = .ok (.iconst 5, 1) := by decide +kernel
theorem dX10_addRobot_50 : decode cX10_addRobot 50 = .ok (.if_icmp .eq 11, 3) := by decide +kernel
theorem dX10_addRobot_53 : decode cX10_addRobot 53 = .ok (.aload_n 0, 1) := by decide +kernel
theorem dX10_addRobot_54 : decode cX10_addRobot 54 = .ok (.iload_n 1, 1) := by decide +kernel
theorem dX10_addRobot_55 : decode cX10_addRobot 55 = .ok (.invokevirtual 167, 3) := by decide +kernel
theorem dX10_addRobot_58 : decode cX10_addRobot 58 = .ok (.ifCond .eq 9, 3) := by decide +kernel
theorem dX10_addRobot_61 : decode cX10_addRobot 61 = .ok (.aload_n 0, 1) := by decide +kernel
theorem dX10_addRobot_62 : decode cX10_addRobot 62 = .ok (.iconst 3, 1) := by decide +kernel
theorem dX10_addRobot_63 : decode cX10_addRobot 63 = .ok (.invokevirtual 164, 3) := by decide +kernel
theorem dX10_addRobot_66 : decode cX10_addRobot 66 = .ok (.ireturn, 1) := by decide +kernel
theorem dX10_addRobot_67 : decode cX10_addRobot 67 = .ok (.aload_n 0, 1) := by decide +kernel
theorem dX10_addRobot_68 : decode cX10_addRobot 68 = .ok (.getfield 7, 3) := by decide +kernel
theorem dX10_addRobot_71 : decode cX10_addRobot 71 = .ok (.bipush 6, 2) := by decide +kernel
theorem dX10_addRobot_73 : decode cX10_addRobot 73 = .ok (.iaload, 1) := by decide +kernel
theorem dX10_addRobot_74 : decode cX10_addRobot 74 = .ok (.istore_n 3, 1) := by decide +kernel
theorem dX10_addRobot_75 : decode cX10_addRobot 75 = .ok (.iconst 0, 1) := by decide +kernel
theorem dX10_addRobot_76 : decode cX10_addRobot 76 = .ok (.istore 4, 2) := by decide +kernel
theorem dX10_addRobot_78 : decode cX10_addRobot 78 = .ok (.iload 4, 2) := by decide +kernel
theorem dX10_addRobot_80 : decode cX10_addRobot 80 = .ok (.bipush 42, 2) := by decide +kernel
theorem dX10_addRobot_82 : decode cX10_addRobot 82 = .ok (.if_icmp .ge 17, 3) := by decide +kernel
theorem dX10_addRobot_85 : decode cX10_addRobot 85 = .ok (.aload_n 0, 1) := by decide +kernel
theorem dX10_addRobot_86 : decode cX10_addRobot 86 = .ok (.iload_n 3, 1) := by decide +kernel
theorem dX10_addRobot_87 : decode cX10_addRobot 87 = .ok (.iload 4, 2) := by decide +kernel
theorem dX10_addRobot_89 : decode cX10_addRobot 89 = .ok (.iconst 0, 1) := by decide +kernel
theorem dX10_addRobot_90 : decode cX10_addRobot 90 = .ok (.invokevirtual 145, 3) := by decide +kernel
theorem dX10_addRobot_93 : decode cX10_addRobot 93 = .ok (.iinc 4 1, 3) := by decide +kernel
theorem dX10_addRobot_96 : decode cX10_addRobot 96 = .ok (.goto (-18), 3) := by decide +kernel
theorem dX10_addRobot_99 : decode cX10_addRobot 99 = .ok (.aload_n 0, 1) := by decide +kernel
theorem dX10_addRobot_100 : decode cX10_addRobot 100 = .ok (.iload_n 3, 1) := by decide +kernel
theorem dX10_addRobot_101 : decode cX10_addRobot 101 = .ok (.iconst 0, 1) := by decide +kernel
theorem dX10_addRobot_102 : decode cX10_addRobot 102 = .ok (.iload_n 1, 1) := by decide +kernel
theorem dX10_addRobot_103 : decode cX10_addRobot 103 = .ok (.invokevirtual 145, 3) := by decide +kernel
theorem dX10_addRobot_106 : decode cX10_addRobot 106 = .ok (.aload_n 0, 1) := by decide +kernel
theorem dX10_addRobot_107 : decode cX10_addRobot 107 = .ok (.iload_n 3, 1) := by decide +kernel
theorem dX10_addRobot_108 : decode cX10_addRobot 108 = .ok (.iconst 1, 1) := by decide +kernel
theorem dX10_addRobot_109 : decode cX10_addRobot 109 = .ok (.iload_n 2, 1) := by decide +kernel
theorem dX10_addRobot_110 : decode cX10_addRobot 110 = .ok (.invokevirtual 145, 3) := by decide +kernel
theorem dX10_addRobot_113 : decode cX10_addRobot 113 = .ok (.aload_n 0, 1) := by decide +kernel
theorem dX10_addRobot_114 : decode cX10_addRobot 114 = .ok (.iload_n 3, 1) := by decide +kernel
theorem dX10_addRobot_115 : decode cX10_addRobot 115 = .ok (.iconst 4, 1) := by decide +kernel
theorem dX10_addRobot_116 : decode cX10_addRobot 116 = .ok (.iconst (-1), 1) := by decide +kernel
theorem dX10_addRobot_117 : decode cX10_addRobot 117 = .ok (.invokevirtual 145, 3) := by decide +kernel
theorem dX10_addRobot_120 : decode cX10_addRobot 120 = .ok (.aload_n 0, 1) := by decide +kernel
theorem dX10_addRobot_121 : decode cX10_addRobot 121 = .ok (.getfield 7, 3) := by decide +kernel
theorem dX10_addRobot_124 : decode cX10_addRobot 124 = .ok (.bipush 6, 2) := by decide +kernel
theorem dX10_addRobot_126 : decode cX10_addRobot 126 = .ok (.dup2, 1) := by decide +kernel
theorem dX10_addRobot_127 : decode cX10_addRobot 127 = .ok (.iaload, 1) := by decide +kernel
theorem dX10_addRobot_128 : decode cX10_addRobot 128 = .ok (.iconst 1, 1) := by decide +kernel
theorem dX10_addRobot_129 : decode cX10_addRobot 129 = .ok (.iadd, 1) := by decide +kernel
theorem dX10_addRobot_130 : decode cX10_addRobot 130 = .ok (.iastore, 1) := by decide +kernel
theorem dX10_addRobot_131 : decode cX10_addRobot 131 = .ok (.iload_n 3, 1) := by decide +kernel
theorem dX10_addRobot_132 : decode cX10_addRobot 132 = .ok (.ireturn, 1) := by decide +kernel
theorem dX10_costLeft_0 : decode cX10_costLeft 0 = .ok (.iconst 0, 1) := by decide +kernel
theorem dX10_costLeft_1 : decode cX10_costLeft 1 = .ok (.istore_n 2, 1) := by decide +kernel
theorem dX10_costLeft_2 : decode cX10_costLeft 2 = .ok (.aload_n 0, 1) := by decide +kernel
theorem dX10_costLeft_3 : decode cX10_costLeft 3 = .ok (.iload_n 1, 1) := by decide +kernel
theorem dX10_costLeft_4 : decode cX10_costLeft 4 = .ok (.invokevirtual 151, 3) := by decide +kernel
theorem dX10_costLeft_7 : decode cX10_costLeft 7 = .ok (.ifCond .eq 7, 3) := by decide +kernel
theorem dX10_costLeft_10 : decode cX10_costLeft 10 = .ok (.iconst 1, 1) := by decide +kernel
theorem dX10_costLeft_11 : decode cX10_costLeft 11 = .ok (.goto 4, 3) := by decide +kernel
theorem dX10_costLeft_14 : decode cX10_costLeft 14 = .ok (.iconst 0, 1) := by decide +kernel
theorem dX10_costLeft_15 : decode cX10_costLeft 15 = .ok (.istore_n 3, 1) := by decide +kernel
theorem dX10_costLeft_16 : decode cX10_costLeft 16 = .ok (.iload_n 3, 1) := by decide +kernel
theorem dX10_costLeft_17 : decode cX10_costLeft 17 = .ok (.aload_n 0, 1) := by decide +kernel
theorem dX10_costLeft_18 : decode cX10_costLeft 18 = .ok (.iload_n 1, 1) := by decide +kernel
theorem dX10_costLeft_19 : decode cX10_costLeft 19 = .ok (.iconst 2, 1) := by decide +kernel
theorem dX10_costLeft_20 : decode cX10_costLeft 20 = .ok (.invokevirtual 58, 3) := by decide +kernel
theorem dX10_costLeft_23 : decode cX10_costLeft 23 = .ok (.if_icmp .ge 21, 3) := by decide +kernel
theorem dX10_costLeft_26 : decode cX10_costLeft 26 = .ok (.iload_n 2, 1) := by decide +kernel
theorem dX10_costLeft_27 : decode cX10_costLeft 27 = .ok (.aload_n 0, 1) := by decide +kernel
theorem dX10_costLeft_28 : decode cX10_costLeft 28 = .ok (.iload_n 1, 1) := by decide +kernel
theorem dX10_costLeft_29 : decode cX10_costLeft 29 = .ok (.iload_n 3, 1) := by decide +kernel
theorem dX10_costLeft_30 : decode cX10_costLeft 30 = .ok (.invokevirtual 65, 3) := by decide +kernel
theorem dX10_costLeft_33 : decode cX10_costLeft 33 = .ok (.invokestatic 101, 3) := by decide +kernel
theorem dX10_costLeft_36 : decode cX10_costLeft 36 = .ok (.iadd, 1) := by decide +kernel
theorem dX10_costLeft_37 : decode cX10_costLeft 37 = .ok (.istore_n 2, 1) := by decide +kernel
theorem dX10_costLeft_38 : decode cX10_costLeft 38 = .ok (.iinc 3 1, 3) := by decide +kernel
theorem dX10_costLeft_41 : decode cX10_costLeft 41 = .ok (.goto (-25), 3) := by decide +kernel
theorem dX10_costLeft_44 : decode cX10_costLeft 44 = .ok (.iload_n 2, 1) := by decide +kernel
theorem dX10_costLeft_45 : decode cX10_costLeft 45 = .ok (.ireturn, 1) := by decide +kernel
theorem dX10_robot_0 : decode cX10_robot 0 = .ok (.aload_n 0, 1) := by decide +kernel
theorem dX10_robot_1 : decode cX10_robot 1 = .ok (.iconst 0, 1) := by decide +kernel
theorem dX10_robot_2 : decode cX10_robot 2 = .ok (.putfield 51, 3) := by decide +kernel
theorem dX10_robot_5 : decode cX10_robot 5 = .ok (.aload_n 0, 1) := by decide +kernel
theorem dX10_robot_6 : decode cX10_robot 6 = .ok (.iload_n 1, 1) := by decide +kernel
theorem dX10_robot_7 : decode cX10_robot 7 = .ok (.invokevirtual 173, 3) := by decide +kernel
theorem dX10_robot_10 : decode cX10_robot 10 = .ok (.ifCond .ne 9, 3) := by decide +kernel
theorem dX10_robot_13 : decode cX10_robot 13 = .ok (.aload_n 0, 1) := by decide +kernel
theorem dX10_robot_14 : decode cX10_robot 14 = .ok (.iconst 1, 1) := by decide +kernel
theorem dX10_robot_15 : decode cX10_robot 15 = .ok (.invokevirtual 164, 3) := by decide +kernel
theorem dX10_robot_18 : decode cX10_robot 18 = .ok (.ireturn, 1) := by decide +kernel
theorem dX10_robot_19 : decode cX10_robot 19 = .ok (.iload_n 2, 1) := by decide +kernel
theorem dX10_robot_20 : decode cX10_robot 20 = .ok (.tableswitch 106 0 5 #[40, 59, 66, 72, 78, 85], 40) := by decide +kernel
theorem dX10_robot_60 : decode cX10_robot 60 = .ok (.aload_n 0, 1) := by decide +kernel
theorem dX10_robot_61 : decode cX10_robot 61 = .ok (.iload_n 1, 1) := by decide +kernel
theorem dX10_robot_62 : decode cX10_robot 62 = .ok (.invokevirtual 151, 3) := by decide +kernel
theorem dX10_robot_65 : decode cX10_robot 65 = .ok (.ifCond .eq 7, 3) := by decide +kernel
theorem dX10_robot_68 : decode cX10_robot 68 = .ok (.iconst (-1), 1) := by decide +kernel
theorem dX10_robot_69 : decode cX10_robot 69 = .ok (.goto 9, 3) := by decide +kernel
theorem dX10_robot_72 : decode cX10_robot 72 = .ok (.aload_n 0, 1) := by decide +kernel
theorem dX10_robot_73 : decode cX10_robot 73 = .ok (.iload_n 1, 1) := by decide +kernel
theorem dX10_robot_74 : decode cX10_robot 74 = .ok (.iconst 0, 1) := by decide +kernel
theorem dX10_robot_75 : decode cX10_robot 75 = .ok (.invokevirtual 58, 3) := by decide +kernel
theorem dX10_robot_78 : decode cX10_robot 78 = .ok (.ireturn, 1) := by decide +kernel
theorem dX10_robot_79 : decode cX10_robot 79 = .ok (.aload_n 0, 1) := by decide +kernel
theorem dX10_robot_80 : decode cX10_robot 80 = .ok (.iload_n 1, 1) := by decide +kernel
theorem dX10_robot_81 : decode cX10_robot 81 = .ok (.iconst 1, 1) := by decide +kernel
theorem dX10_robot_82 : decode cX10_robot 82 = .ok (.invokevirtual 58, 3) := by decide +kernel
theorem dX10_robot_85 : decode cX10_robot 85 = .ok (.ireturn, 1) := by decide +kernel
theorem dX10_robot_86 : decode cX10_robot 86 = .ok (.aload_n 0, 1) := by decide +kernel
theorem dX10_robot_87 : decode cX10_robot 87 = .ok (.iload_n 1, 1) := by decide +kernel
theorem dX10_robot_88 : decode cX10_robot 88 = .ok (.invokevirtual 176, 3) := by decide +kernel
theorem dX10_robot_91 : decode cX10_robot 91 = .ok (.ireturn, 1) := by decide +kernel
theorem dX10_robot_92 : decode cX10_robot 92 = .ok (.aload_n 0, 1) := by decide +kernel
theorem dX10_robot_93 : decode cX10_robot 93 = .ok (.iload_n 1, 1) := by decide +kernel
theorem dX10_robot_94 : decode cX10_robot 94 = .ok (.invokevirtual 179, 3) := by decide +kernel
theorem dX10_robot_97 : decode cX10_robot 97 = .ok (.ireturn, 1) := by decide +kernel
theorem dX10_robot_98 : decode cX10_robot 98 = .ok (.aload_n 0, 1) := by decide +kernel
theorem dX10_robot_99 : decode cX10_robot 99 = .ok (.iload_n 1, 1) := by decide +kernel
theorem dX10_robot_100 : decode cX10_robot 100 = .ok (.iconst 4, 1) := by decide +kernel
theorem dX10_robot_101 : decode cX10_robot 101 = .ok (.invokevirtual 58, 3) := by decide +kernel
theorem dX10_robot_104 : decode cX10_robot 104 = .ok (.ireturn, 1) := by decide +kernel
theorem dX10_robot_105 : decode cX10_robot 105 = .ok (.aload_n 0, 1) := by decide +kernel
theorem dX10_robot_106 : decode cX10_robot 106 = .ok (.iload_n 1, 1) := by decide +kernel
theorem dX10_robot_107 : decode cX10_robot 107 = .ok (.invokevirtual 151, 3) := by decide +kernel
theorem dX10_robot_110 : decode cX10_robot 110 = .ok (.ifCond .eq 14, 3) := by decide +kernel
theorem dX10_robot_113 : decode cX10_robot 113 = .ok (.aload_n 0, 1) := by decide +kernel
theorem dX10_robot_114 : decode cX10_robot 114 = .ok (.iload_n 1, 1) := by decide +kernel
theorem dX10_robot_115 : decode cX10_robot 115 = .ok (.iconst 0, 1) := by decide +kernel
theorem dX10_robot_116 : decode cX10_robot 116 = .ok (.invokevirtual 65, 3) := by decide +kernel
theorem dX10_robot_119 : decode cX10_robot 119 = .ok (.iconst 5, 1) := by decide +kernel
theorem dX10_robot_120 : decode cX10_robot 120 = .ok (.isub, 1) := by decide +kernel
theorem dX10_robot_121 : decode cX10_robot 121 = .ok (.goto 4, 3) := by decide +kernel
theorem dX10_robot_124 : decode cX10_robot 124 = .ok (.iconst (-1), 1) := by decide +kernel
theorem dX10_robot_125 : decode cX10_robot 125 = .ok (.ireturn, 1) := by decide +kernel
theorem dX10_robot_126 : decode cX10_robot 126 = .ok (.aload_n 0, 1) := by decide +kernel
theorem dX10_robot_127 : decode cX10_robot 127 = .ok (.iconst 2, 1) := by decide +kernel
theorem dX10_robot_128 : decode cX10_robot 128 = .ok (.invokevirtual 164, 3) := by decide +kernel
theorem dX10_robot_131 : decode cX10_robot 131 = .ok (.ireturn, 1) := by decide +kernel
theorem dX10_cellsOf_0 : decode cX10_cellsOf 0 = .ok (.iconst 0, 1) := by decide +kernel
theorem dX10_cellsOf_1 : decode cX10_cellsOf 1 = .ok (.istore_n 2, 1) := by decide +kernel
theorem dX10_cellsOf_2 : decode cX10_cellsOf 2 = .ok (.iconst 0, 1) := by decide +kernel
theorem dX10_cellsOf_3 : decode cX10_cellsOf 3 = .ok (.istore_n 3, 1) := by decide +kernel
theorem dX10_cellsOf_4 : decode cX10_cellsOf 4 = .ok (.iload_n 3, 1) := by decide +kernel
theorem dX10_cellsOf_5 : decode cX10_cellsOf 5 = .ok (.bipush 40, 2) := by decide +kernel
theorem dX10_cellsOf_7 : decode cX10_cellsOf 7 = .ok (.if_icmp .ge 30, 3) := by decide +kernel
theorem dX10_cellsOf_10 : decode cX10_cellsOf 10 = .ok (.iload_n 2, 1) := by decide +kernel
theorem dX10_cellsOf_11 : decode cX10_cellsOf 11 = .ok (.aload_n 0, 1) := by decide +kernel
theorem dX10_cellsOf_12 : decode cX10_cellsOf 12 = .ok (.getfield 7, 3) := by decide +kernel
theorem dX10_cellsOf_15 : decode cX10_cellsOf 15 = .ok (.bipush 8, 2) := by decide +kernel
theorem dX10_cellsOf_17 : decode cX10_cellsOf 17 = .ok (.iload_n 3, 1) := by decide +kernel
theorem dX10_cellsOf_18 : decode cX10_cellsOf 18 = .ok (.iadd, 1) := by decide +kernel
theorem dX10_cellsOf_19 : decode cX10_cellsOf 19 = .ok (.iaload, 1) := by decide +kernel
theorem dX10_cellsOf_20 : decode cX10_cellsOf 20 = .ok (.iload_n 1, 1) := by decide +kernel
theorem dX10_cellsOf_21 : decode cX10_cellsOf 21 = .ok (.if_icmp .ne 7, 3) := by decide +kernel
theorem dX10_cellsOf_24 : decode cX10_cellsOf 24 = .ok (.iconst 1, 1) := by decide +kernel
theorem dX10_cellsOf_25 : decode cX10_cellsOf 25 = .ok (.goto 4, 3) := by decide +kernel
theorem dX10_cellsOf_28 : decode cX10_cellsOf 28 = .ok (.iconst 0, 1) := by decide +kernel
theorem dX10_cellsOf_29 : decode cX10_cellsOf 29 = .ok (.iadd, 1) := by decide +kernel
theorem dX10_cellsOf_30 : decode cX10_cellsOf 30 = .ok (.istore_n 2, 1) := by decide +kernel
theorem dX10_cellsOf_31 : decode cX10_cellsOf 31 = .ok (.iinc 3 1, 3) := by decide +kernel
theorem dX10_cellsOf_34 : decode cX10_cellsOf 34 = .ok (.goto (-30), 3) := by decide +kernel
theorem dX10_cellsOf_37 : decode cX10_cellsOf 37 = .ok (.iload_n 2, 1) := by decide +kernel
theorem dX10_cellsOf_38 : decode cX10_cellsOf 38 = .ok (.ireturn, 1) := by decide +kernel
theorem dX10_count_0 : decode cX10_count 0 = .ok (.aload_n 0, 1) := by decide +kernel
theorem dX10_count_1 : decode cX10_count 1 = .ok (.iconst 0, 1) := by decide +kernel
theorem dX10_count_2 : decode cX10_count 2 = .ok (.putfield 51, 3) := by decide +kernel
theorem dX10_count_5 : decode cX10_count 5 = .ok (.iload_n 1, 1) := by decide +kernel
theorem dX10_count_6 : decode cX10_count 6 = .ok (.tableswitch 80 0 5 #[38, 46, 53, 61, 67, 73], 38) := by decide +kernel
theorem dX10_count_44 : decode cX10_count 44 = .ok (.aload_n 0, 1) := by decide +kernel
theorem dX10_count_45 : decode cX10_count 45 = .ok (.getfield 7, 3) := by decide +kernel
theorem dX10_count_48 : decode cX10_count 48 = .ok (.bipush 6, 2) := by decide +kernel
theorem dX10_count_50 : decode cX10_count 50 = .ok (.iaload, 1) := by decide +kernel
theorem dX10_count_51 : decode cX10_count 51 = .ok (.ireturn, 1) := by decide +kernel
theorem dX10_count_52 : decode cX10_count 52 = .ok (.aload_n 0, 1) := by decide +kernel
theorem dX10_count_53 : decode cX10_count 53 = .ok (.getfield 7, 3) := by decide +kernel
theorem dX10_count_56 : decode cX10_count 56 = .ok (.iconst 1, 1) := by decide +kernel
theorem dX10_count_57 : decode cX10_count 57 = .ok (.iaload, 1) := by decide +kernel
theorem dX10_count_58 : decode cX10_count 58 = .ok (.ireturn, 1) := by decide +kernel
theorem dX10_count_59 : decode cX10_count 59 = .ok (.aload_n 0, 1) := by decide +kernel
theorem dX10_count_60 : decode cX10_count 60 = .ok (.getfield 7, 3) := by decide +kernel
theorem dX10_count_63 : decode cX10_count 63 = .ok (.bipush 7, 2) := by decide +kernel
theorem dX10_count_65 : decode cX10_count 65 = .ok (.iaload, 1) := by decide +kernel
theorem dX10_count_66 : decode cX10_count 66 = .ok (.ireturn, 1) := by decide +kernel
theorem dX10_count_67 : decode cX10_count 67 = .ok (.aload_n 0, 1) := by decide +kernel
theorem dX10_count_68 : decode cX10_count 68 = .ok (.iconst 1, 1) := by decide +kernel
theorem dX10_count_69 : decode cX10_count 69 = .ok (.invokevirtual 182, 3) := by decide +kernel
theorem dX10_count_72 : decode cX10_count 72 = .ok (.ireturn, 1) := by decide +kernel
theorem dX10_count_73 : decode cX10_count 73 = .ok (.aload_n 0, 1) := by decide +kernel
theorem dX10_count_74 : decode cX10_count 74 = .ok (.iconst 2, 1) := by decide +kernel
theorem dX10_count_75 : decode cX10_count 75 = .ok (.invokevirtual 182, 3) := by decide +kernel
theorem dX10_count_78 : decode cX10_count 78 = .ok (.ireturn, 1) := by decide +kernel
theorem dX10_count_79 : decode cX10_count 79 = .ok (.aload_n 0, 1) := by decide +kernel
theorem dX10_count_80 : decode cX10_count 80 = .ok (.getfield 7, 3) := by decide +kernel
theorem dX10_count_83 : decode cX10_count 83 = .ok (.iconst 0, 1) := by decide +kernel
theorem dX10_count_84 : decode cX10_count 84 = .ok (.iaload, 1) := by decide +kernel
theorem dX10_count_85 : decode cX10_count 85 = .ok (.ireturn, 1) := by decide +kernel
theorem dX10_count_86 : decode cX10_count 86 = .ok (.aload_n 0, 1) := by decide +kernel
theorem dX10_count_87 : decode cX10_count 87 = .ok (.iconst 1, 1) := by decide +kernel
theorem dX10_count_88 : decode cX10_count 88 = .ok (.invokevirtual 164, 3) := by decide +kernel
theorem dX10_count_91 : decode cX10_count 91 = .ok (.ireturn, 1) := by decide +kernel
theorem dX10_measures_0 : decode cX10_measures 0 = .ok (.iconst 0, 1) := by decide +kernel
theorem dX10_measures_1 : decode cX10_measures 1 = .ok (.istore_n 2, 1) := by decide +kernel
theorem dX10_measures_2 : decode cX10_measures 2 = .ok (.iload_n 2, 1) := by decide +kernel
theorem dX10_measures_3 : decode cX10_measures 3 = .ok (.bipush 40, 2) := by decide +kernel
theorem dX10_measures_5 : decode cX10_measures 5 = .ok (.if_icmp .ge 17, 3) := by decide +kernel
theorem dX10_measures_8 : decode cX10_measures 8 = .ok (.aload_n 0, 1) := by decide +kernel
theorem dX10_measures_9 : decode cX10_measures 9 = .ok (.getfield 48, 3) := by decide +kernel
theorem dX10_measures_12 : decode cX10_measures 12 = .ok (.iload_n 2, 1) := by decide +kernel
theorem dX10_measures_13 : decode cX10_measures 13 = .ok (.ldc 100, 2) := by decide +kernel
theorem dX10_measures_15 : decode cX10_measures 15 = .ok (.iastore, 1) := by decide +kernel
theorem dX10_measures_16 : decode cX10_measures 16 = .ok (.iinc 2 1, 3) := by decide +kernel
theorem dX10_measures_19 : decode cX10_measures 19 = .ok (.goto (-17), 3) := by decide +kernel
theorem dX10_measures_22 : decode cX10_measures 22 = .ok (.aload_n 0, 1) := by decide +kernel
theorem dX10_measures_23 : decode cX10_measures 23 = .ok (.iload_n 1, 1) := by decide +kernel
theorem dX10_measures_24 : decode cX10_measures 24 = .ok (.invokevirtual 79, 3) := by decide +kernel
theorem dX10_measures_27 : decode cX10_measures 27 = .ok (.ifCond .ne 10, 3) := by decide +kernel
theorem dX10_measures_30 : decode cX10_measures 30 = .ok (.aload_n 0, 1) := by decide +kernel
theorem dX10_measures_31 : decode cX10_measures 31 = .ok (.getfield 48, 3) := by decide +kernel
theorem dX10_measures_34 : decode cX10_measures 34 = .ok (.iload_n 1, 1) := by decide +kernel
theorem dX10_measures_35 : decode cX10_measures 35 = .ok (.iconst 0, 1) := by decide +kernel
theorem dX10_measures_36 : decode cX10_measures 36 = .ok (.iastore, 1) := by decide +kernel
theorem dX10_measures_37 : decode cX10_measures 37 = .ok (.iconst 0, 1) := by decide +kernel
theorem dX10_measures_38 : decode cX10_measures 38 = .ok (.istore_n 2, 1) := by decide +kernel
theorem dX10_measures_39 : decode cX10_measures 39 = .ok (.iload_n 2, 1) := by decide +kernel
theorem dX10_measures_40 : decode cX10_measures 40 = .ok (.bipush 120, 2) := by decide +kernel
theorem dX10_measures_42 : decode cX10_measures 42 = .ok (.if_icmp .ge 38, 3) := by decide +kernel
theorem dX10_measures_45 : decode cX10_measures 45 = .ok (.iconst 0, 1) := by decide +kernel
theorem dX10_measures_46 : decode cX10_measures 46 = .ok (.istore_n 3, 1) := by decide +kernel
theorem dX10_measures_47 : decode cX10_measures 47 = .ok (.iload_n 3, 1) := by decide +kernel
theorem dX10_measures_48 : decode cX10_measures 48 = .ok (.bipush 40, 2) := by decide +kernel
theorem dX10_measures_50 : decode cX10_measures 50 = .ok (.if_icmp .ge 24, 3) := by decide +kernel
theorem dX10_measures_53 : decode cX10_measures 53 = .ok (.aload_n 0, 1) := by decide +kernel
theorem dX10_measures_54 : decode cX10_measures 54 = .ok (.getfield 48, 3) := by decide +kernel
theorem dX10_measures_57 : decode cX10_measures 57 = .ok (.iload_n 3, 1) := by decide +kernel
theorem dX10_measures_58 : decode cX10_measures 58 = .ok (.iaload, 1) := by decide +kernel
theorem dX10_measures_59 : decode cX10_measures 59 = .ok (.iload_n 2, 1) := by decide +kernel
theorem dX10_measures_60 : decode cX10_measures 60 = .ok (.if_icmp .ne 8, 3) := by decide +kernel
theorem dX10_measures_63 : decode cX10_measures 63 = .ok (.aload_n 0, 1) := by decide +kernel
theorem dX10_measures_64 : decode cX10_measures 64 = .ok (.iload_n 3, 1) := by decide +kernel
theorem dX10_measures_65 : decode cX10_measures 65 = .ok (.invokevirtual 185, 3) := by decide +kernel
theorem dX10_measures_68 : decode cX10_measures 68 = .ok (.iinc 3 1, 3) := by decide +kernel
theorem dX10_measures_71 : decode cX10_measures 71 = .ok (.goto (-24), 3) := by decide +kernel
theorem dX10_measures_74 : decode cX10_measures 74 = .ok (.iinc 2 1, 3) := by decide +kernel
theorem dX10_measures_77 : decode cX10_measures 77 = .ok (.goto (-38), 3) := by decide +kernel
theorem dX10_measures_80 : decode cX10_measures 80 = .ok (.return_, 1) := by decide +kernel
theorem dX10_relaxes_0 : decode cX10_relaxes 0 = .ok (.iconst 1, 1) := by decide +kernel
theorem dX10_relaxes_1 : decode cX10_relaxes 1 = .ok (.istore_n 2, 1) := by decide +kernel
theorem dX10_relaxes_2 : decode cX10_relaxes 2 = .ok (.iload_n 2, 1) := by decide +kernel
theorem dX10_relaxes_3 : decode cX10_relaxes 3 = .ok (.bipush 7, 2) := by decide +kernel
theorem dX10_relaxes_5 : decode cX10_relaxes 5 = .ok (.if_icmp .ge 55, 3) := by decide +kernel
theorem dX10_relaxes_8 : decode cX10_relaxes 8 = .ok (.aload_n 0, 1) := by decide +kernel
theorem dX10_relaxes_9 : decode cX10_relaxes 9 = .ok (.iload_n 1, 1) := by decide +kernel
theorem dX10_relaxes_10 : decode cX10_relaxes 10 = .ok (.iload_n 2, 1) := by decide +kernel
theorem dX10_relaxes_11 : decode cX10_relaxes 11 = .ok (.invokevirtual 72, 3) := by decide +kernel
theorem dX10_relaxes_14 : decode cX10_relaxes 14 = .ok (.istore_n 3, 1) := by decide +kernel
theorem dX10_relaxes_15 : decode cX10_relaxes 15 = .ok (.iload_n 3, 1) := by decide +kernel
theorem dX10_relaxes_16 : decode cX10_relaxes 16 = .ok (.iconst (-1), 1) := by decide +kernel
theorem dX10_relaxes_17 : decode cX10_relaxes 17 = .ok (.if_icmp .eq 37, 3) := by decide +kernel
theorem dX10_relaxes_20 : decode cX10_relaxes 20 = .ok (.aload_n 0, 1) := by decide +kernel
theorem dX10_relaxes_21 : decode cX10_relaxes 21 = .ok (.iload_n 3, 1) := by decide +kernel
theorem dX10_relaxes_22 : decode cX10_relaxes 22 = .ok (.invokevirtual 79, 3) := by decide +kernel
theorem dX10_relaxes_25 : decode cX10_relaxes 25 = .ok (.ifCond .ne 29, 3) := by decide +kernel
theorem dX10_relaxes_28 : decode cX10_relaxes 28 = .ok (.aload_n 0, 1) := by decide +kernel
theorem dX10_relaxes_29 : decode cX10_relaxes 29 = .ok (.getfield 48, 3) := by decide +kernel
theorem dX10_relaxes_32 : decode cX10_relaxes 32 = .ok (.iload_n 3, 1) := by decide +kernel
theorem dX10_relaxes_33 : decode cX10_relaxes 33 = .ok (.aload_n 0, 1) := by decide +kernel
theorem dX10_relaxes_34 : decode cX10_relaxes 34 = .ok (.getfield 48, 3) := by decide +kernel
theorem dX10_relaxes_37 : decode cX10_relaxes 37 = .ok (.iload_n 3, 1) := by decide +kernel
theorem dX10_relaxes_38 : decode cX10_relaxes 38 = .ok (.iaload, 1) := by decide +kernel
theorem dX10_relaxes_39 : decode cX10_relaxes 39 = .ok (.aload_n 0, 1) := by decide +kernel
theorem dX10_relaxes_40 : decode cX10_relaxes 40 = .ok (.getfield 48, 3) := by decide +kernel
theorem dX10_relaxes_43 : decode cX10_relaxes 43 = .ok (.iload_n 1, 1) := by decide +kernel
theorem dX10_relaxes_44 : decode cX10_relaxes 44 = .ok (.iaload, 1) := by decide +kernel
theorem dX10_relaxes_45 : decode cX10_relaxes 45 = .ok (.iload_n 2, 1) := by decide +kernel
theorem dX10_relaxes_46 : decode cX10_relaxes 46 = .ok (.invokestatic 68, 3) := by decide +kernel
theorem dX10_relaxes_49 : decode cX10_relaxes 49 = .ok (.iadd, 1) := by decide +kernel
theorem dX10_relaxes_50 : decode cX10_relaxes 50 = .ok (.invokestatic 104, 3) := by decide +kernel
theorem dX10_relaxes_53 : decode cX10_relaxes 53 = .ok (.iastore, 1) := by decide +kernel
theorem dX10_relaxes_54 : decode cX10_relaxes 54 = .ok (.iinc 2 1, 3) := by decide +kernel
theorem dX10_relaxes_57 : decode cX10_relaxes 57 = .ok (.goto (-55), 3) := by decide +kernel
theorem dX10_relaxes_60 : decode cX10_relaxes 60 = .ok (.return_, 1) := by decide +kernel
theorem dX10_region_0 : decode cX10_region 0 = .ok (.aload_n 0, 1) := by decide +kernel
theorem dX10_region_1 : decode cX10_region 1 = .ok (.iconst 0, 1) := by decide +kernel
theorem dX10_region_2 : decode cX10_region 2 = .ok (.putfield 51, 3) := by decide +kernel
theorem dX10_region_5 : decode cX10_region 5 = .ok (.iload_n 1, 1) := by decide +kernel
theorem dX10_region_6 : decode cX10_region 6 = .ok (.invokestatic 161, 3) := by decide +kernel
theorem dX10_region_9 : decode cX10_region 9 = .ok (.ifCond .ne 9, 3) := by decide +kernel
theorem dX10_region_12 : decode cX10_region 12 = .ok (.aload_n 0, 1) := by decide +kernel
theorem dX10_region_13 : decode cX10_region 13 = .ok (.iconst 1, 1) := by decide +kernel
theorem dX10_region_14 : decode cX10_region 14 = .ok (.invokevirtual 164, 3) := by decide +kernel
theorem dX10_region_17 : decode cX10_region 17 = .ok (.ireturn, 1) := by decide +kernel
theorem dX10_region_18 : decode cX10_region 18 = .ok (.aload_n 0, 1) := by decide +kernel
theorem dX10_region_19 : decode cX10_region 19 = .ok (.iload_n 1, 1) := by decide +kernel
theorem dX10_region_20 : decode cX10_region 20 = .ok (.invokevirtual 188, 3) := by decide +kernel
theorem dX10_region_23 : decode cX10_region 23 = .ok (.iconst 0, 1) := by decide +kernel
theorem dX10_region_24 : decode cX10_region 24 = .ok (.istore_n 2, 1) := by decide +kernel
theorem dX10_region_25 : decode cX10_region 25 = .ok (.iconst 0, 1) := by decide +kernel
theorem dX10_region_26 : decode cX10_region 26 = .ok (.istore_n 3, 1) := by decide +kernel
theorem dX10_region_27 : decode cX10_region 27 = .ok (.iload_n 3, 1) := by decide +kernel
theorem dX10_region_28 : decode cX10_region 28 = .ok (.bipush 40, 2) := by decide +kernel
theorem dX10_region_30 : decode cX10_region 30 = .ok (.if_icmp .ge 28, 3) := by decide +kernel
theorem dX10_region_33 : decode cX10_region 33 = .ok (.iload_n 2, 1) := by decide +kernel
theorem dX10_region_34 : decode cX10_region 34 = .ok (.aload_n 0, 1) := by decide +kernel
theorem dX10_region_35 : decode cX10_region 35 = .ok (.getfield 48, 3) := by decide +kernel
theorem dX10_region_38 : decode cX10_region 38 = .ok (.iload_n 3, 1) := by decide +kernel
theorem dX10_region_39 : decode cX10_region 39 = .ok (.iaload, 1) := by decide +kernel
theorem dX10_region_40 : decode cX10_region 40 = .ok (.ldc 100, 2) := by decide +kernel
theorem dX10_region_42 : decode cX10_region 42 = .ok (.if_icmp .ge 7, 3) := by decide +kernel
theorem dX10_region_45 : decode cX10_region 45 = .ok (.iconst 1, 1) := by decide +kernel
theorem dX10_region_46 : decode cX10_region 46 = .ok (.goto 4, 3) := by decide +kernel
theorem dX10_region_49 : decode cX10_region 49 = .ok (.iconst 0, 1) := by decide +kernel
theorem dX10_region_50 : decode cX10_region 50 = .ok (.iadd, 1) := by decide +kernel
theorem dX10_region_51 : decode cX10_region 51 = .ok (.istore_n 2, 1) := by decide +kernel
theorem dX10_region_52 : decode cX10_region 52 = .ok (.iinc 3 1, 3) := by decide +kernel
theorem dX10_region_55 : decode cX10_region 55 = .ok (.goto (-28), 3) := by decide +kernel
theorem dX10_region_58 : decode cX10_region 58 = .ok (.iload_n 2, 1) := by decide +kernel
theorem dX10_region_59 : decode cX10_region 59 = .ok (.ireturn, 1) := by decide +kernel
theorem dX10_ticksBetween_0 : decode cX10_ticksBetween 0 = .ok (.aload_n 0, 1) := by decide +kernel
theorem dX10_ticksBetween_1 : decode cX10_ticksBetween 1 = .ok (.iconst 0, 1) := by decide +kernel
theorem dX10_ticksBetween_2 : decode cX10_ticksBetween 2 = .ok (.putfield 51, 3) := by decide +kernel
theorem dX10_ticksBetween_5 : decode cX10_ticksBetween 5 = .ok (.iload_n 1, 1) := by decide +kernel
theorem dX10_ticksBetween_6 : decode cX10_ticksBetween 6 = .ok (.invokestatic 161, 3) := by decide +kernel
theorem dX10_ticksBetween_9 : decode cX10_ticksBetween 9 = .ok (.ifCond .eq 10, 3) := by decide +kernel
theorem dX10_ticksBetween_12 : decode cX10_ticksBetween 12 = .ok (.iload_n 2, 1) := by decide +kernel
theorem dX10_ticksBetween_13 : decode cX10_ticksBetween 13 = .ok (.invokestatic 161, 3) := by decide +kernel
theorem dX10_ticksBetween_16 : decode cX10_ticksBetween 16 = .ok (.ifCond .ne 9, 3) := by decide +kernel
theorem dX10_ticksBetween_19 : decode cX10_ticksBetween 19 = .ok (.aload_n 0, 1) := by decide +kernel
theorem dX10_ticksBetween_20 : decode cX10_ticksBetween 20 = .ok (.iconst 1, 1) := by decide +kernel
theorem dX10_ticksBetween_21 : decode cX10_ticksBetween 21 = .ok (.invokevirtual 164, 3) := by decide +kernel
theorem dX10_ticksBetween_24 : decode cX10_ticksBetween 24 = .ok (.ireturn, 1) := by decide +kernel
theorem dX10_ticksBetween_25 : decode cX10_ticksBetween 25 = .ok (.aload_n 0, 1) := by decide +kernel
theorem dX10_ticksBetween_26 : decode cX10_ticksBetween 26 = .ok (.iload_n 1, 1) := by decide +kernel
theorem dX10_ticksBetween_27 : decode cX10_ticksBetween 27 = .ok (.invokevirtual 188, 3) := by decide +kernel
theorem dX10_ticksBetween_30 : decode cX10_ticksBetween 30 = .ok (.aload_n 0, 1) := by decide +kernel
theorem dX10_ticksBetween_31 : decode cX10_ticksBetween 31 = .ok (.getfield 48, 3) := by decide +kernel
theorem dX10_ticksBetween_34 : decode cX10_ticksBetween 34 = .ok (.iload_n 2, 1) := by decide +kernel
theorem dX10_ticksBetween_35 : decode cX10_ticksBetween 35 = .ok (.iaload, 1) := by decide +kernel
theorem dX10_ticksBetween_36 : decode cX10_ticksBetween 36 = .ok (.ldc 100, 2) := by decide +kernel
theorem dX10_ticksBetween_38 : decode cX10_ticksBetween 38 = .ok (.if_icmp .ge 12, 3) := by decide +kernel
theorem dX10_ticksBetween_41 : decode cX10_ticksBetween 41 = .ok (.aload_n 0, 1) := by decide +kernel
theorem dX10_ticksBetween_42 : decode cX10_ticksBetween 42 = .ok (.getfield 48, 3) := by decide +kernel
theorem dX10_ticksBetween_45 : decode cX10_ticksBetween 45 = .ok (.iload_n 2, 1) := by decide +kernel
theorem dX10_ticksBetween_46 : decode cX10_ticksBetween 46 = .ok (.iaload, 1) := by decide +kernel
theorem dX10_ticksBetween_47 : decode cX10_ticksBetween 47 = .ok (.goto 8, 3) := by decide +kernel
theorem dX10_ticksBetween_50 : decode cX10_ticksBetween 50 = .ok (.aload_n 0, 1) := by decide +kernel
theorem dX10_ticksBetween_51 : decode cX10_ticksBetween 51 = .ok (.iconst 2, 1) := by decide +kernel
theorem dX10_ticksBetween_52 : decode cX10_ticksBetween 52 = .ok (.invokevirtual 164, 3) := by decide +kernel
theorem dX10_ticksBetween_55 : decode cX10_ticksBetween 55 = .ok (.ireturn, 1) := by decide +kernel
theorem dX10_routeRefusal_0 : decode cX10_routeRefusal 0 = .ok (.aload_n 0, 1) := by decide +kernel
theorem dX10_routeRefusal_1 : decode cX10_routeRefusal 1 = .ok (.aload_n 0, 1) := by decide +kernel
theorem dX10_routeRefusal_2 : decode cX10_routeRefusal 2 = .ok (.iload_n 1, 1) := by decide +kernel
theorem dX10_routeRefusal_3 : decode cX10_routeRefusal 3 = .ok (.invokevirtual 173, 3) := by decide +kernel
theorem dX10_routeRefusal_6 : decode cX10_routeRefusal 6 = .ok (.ifCond .eq 10, 3) := by decide +kernel
theorem dX10_routeRefusal_9 : decode cX10_routeRefusal 9 = .ok (.iload_n 2, 1) := by decide +kernel
theorem dX10_routeRefusal_10 : decode cX10_routeRefusal 10 = .ok (.invokestatic 161, 3) := by decide +kernel
theorem dX10_routeRefusal_13 : decode cX10_routeRefusal 13 = .ok (.ifCond .ne 7, 3) := by decide +kernel
theorem dX10_routeRefusal_16 : decode cX10_routeRefusal 16 = .ok (.iconst 1, 1) := by decide +kernel
theorem dX10_routeRefusal_17 : decode cX10_routeRefusal 17 = .ok (.goto 29, 3) := by decide +kernel
theorem dX10_routeRefusal_20 : decode cX10_routeRefusal 20 = .ok (.aload_n 0, 1) := by decide +kernel
theorem dX10_routeRefusal_21 : decode cX10_routeRefusal 21 = .ok (.iload_n 1, 1) := by decide +kernel
theorem dX10_routeRefusal_22 : decode cX10_routeRefusal 22 = .ok (.invokevirtual 151, 3) := by decide +kernel
theorem dX10_routeRefusal_25 : decode cX10_routeRefusal 25 = .ok (.ifCond .eq 7, 3) := by decide +kernel
theorem dX10_routeRefusal_28 : decode cX10_routeRefusal 28 = .ok (.iconst 2, 1) := by decide +kernel
theorem dX10_routeRefusal_29 : decode cX10_routeRefusal 29 = .ok (.goto 17, 3) := by decide +kernel
theorem dX10_routeRefusal_32 : decode cX10_routeRefusal 32 = .ok (.aload_n 0, 1) := by decide +kernel
theorem dX10_routeRefusal_33 : decode cX10_routeRefusal 33 = .ok (.iload_n 1, 1) := by decide +kernel
theorem dX10_routeRefusal_34 : decode cX10_routeRefusal 34 = .ok (.iload_n 2, 1) := by decide +kernel
theorem dX10_routeRefusal_35 : decode cX10_routeRefusal 35 = .ok (.invokevirtual 154, 3) := by decide +kernel
theorem dX10_routeRefusal_38 : decode cX10_routeRefusal 38 = .ok (.ifCond .eq 7, 3) := by decide +kernel
theorem dX10_routeRefusal_41 : decode cX10_routeRefusal 41 = .ok (.iconst 0, 1) := by decide +kernel
theorem dX10_routeRefusal_42 : decode cX10_routeRefusal 42 = .ok (.goto 4, 3) := by decide +kernel
theorem dX10_routeRefusal_45 : decode cX10_routeRefusal 45 = .ok (.iconst 3, 1) := by decide +kernel
theorem dX10_routeRefusal_46 : decode cX10_routeRefusal 46 = .ok (.putfield 51, 3) := by decide +kernel
theorem dX10_routeRefusal_49 : decode cX10_routeRefusal 49 = .ok (.aload_n 0, 1) := by decide +kernel
theorem dX10_routeRefusal_50 : decode cX10_routeRefusal 50 = .ok (.getfield 51, 3) := by decide +kernel
theorem dX10_routeRefusal_53 : decode cX10_routeRefusal 53 = .ok (.ireturn, 1) := by decide +kernel
theorem dX10_plan_0 : decode cX10_plan 0 = .ok (.aload_n 0, 1) := by decide +kernel
theorem dX10_plan_1 : decode cX10_plan 1 = .ok (.iload_n 1, 1) := by decide +kernel
theorem dX10_plan_2 : decode cX10_plan 2 = .ok (.iload_n 2, 1) := by decide +kernel
theorem dX10_plan_3 : decode cX10_plan 3 = .ok (.invokevirtual 191, 3) := by decide +kernel
theorem dX10_plan_6 : decode cX10_plan 6 = .ok (.ifCond .le 5, 3) := by decide +kernel
theorem dX10_plan_9 : decode cX10_plan 9 = .ok (.iconst 0, 1) := by decide +kernel
theorem dX10_plan_10 : decode cX10_plan 10 = .ok (.ireturn, 1) := by decide +kernel
theorem dX10_plan_11 : decode cX10_plan 11 = .ok (.aload_n 0, 1) := by decide +kernel
theorem dX10_plan_12 : decode cX10_plan 12 = .ok (.getfield 119, 3) := by decide +kernel
theorem dX10_plan_15 : decode cX10_plan 15 = .ok (.aload_n 0, 1) := by decide +kernel
theorem dX10_plan_16 : decode cX10_plan 16 = .ok (.iload_n 1, 1) := by decide +kernel
theorem dX10_plan_17 : decode cX10_plan 17 = .ok (.iconst 1, 1) := by decide +kernel
theorem dX10_plan_18 : decode cX10_plan 18 = .ok (.invokevirtual 58, 3) := by decide +kernel
theorem dX10_plan_21 : decode cX10_plan 21 = .ok (.if_icmp .le 9, 3) := by decide +kernel
theorem dX10_plan_24 : decode cX10_plan 24 = .ok (.aload_n 0, 1) := by decide +kernel
theorem dX10_plan_25 : decode cX10_plan 25 = .ok (.iconst 4, 1) := by decide +kernel
theorem dX10_plan_26 : decode cX10_plan 26 = .ok (.invokevirtual 164, 3) := by decide +kernel
theorem dX10_plan_29 : decode cX10_plan 29 = .ok (.ireturn, 1) := by decide +kernel
theorem dX10_plan_30 : decode cX10_plan 30 = .ok (.aload_n 0, 1) := by decide +kernel
theorem dX10_plan_31 : decode cX10_plan 31 = .ok (.iload_n 1, 1) := by decide +kernel
theorem dX10_plan_32 : decode cX10_plan 32 = .ok (.invokevirtual 194, 3) := by decide +kernel
theorem dX10_plan_35 : decode cX10_plan 35 = .ok (.aload_n 0, 1) := by decide +kernel
theorem dX10_plan_36 : decode cX10_plan 36 = .ok (.getfield 129, 3) := by decide +kernel
theorem dX10_plan_39 : decode cX10_plan 39 = .ok (.ireturn, 1) := by decide +kernel
theorem dX10_arrival_0 : decode cX10_arrival 0 = .ok (.aload_n 0, 1) := by decide +kernel
theorem dX10_arrival_1 : decode cX10_arrival 1 = .ok (.iload_n 1, 1) := by decide +kernel
theorem dX10_arrival_2 : decode cX10_arrival 2 = .ok (.iload_n 2, 1) := by decide +kernel
theorem dX10_arrival_3 : decode cX10_arrival 3 = .ok (.invokevirtual 191, 3) := by decide +kernel
theorem dX10_arrival_6 : decode cX10_arrival 6 = .ok (.ifCond .le 7, 3) := by decide +kernel
theorem dX10_arrival_9 : decode cX10_arrival 9 = .ok (.iconst 0, 1) := by decide +kernel
theorem dX10_arrival_10 : decode cX10_arrival 10 = .ok (.goto 7, 3) := by decide +kernel
theorem dX10_arrival_13 : decode cX10_arrival 13 = .ok (.aload_n 0, 1) := by decide +kernel
theorem dX10_arrival_14 : decode cX10_arrival 14 = .ok (.getfield 129, 3) := by decide +kernel
theorem dX10_arrival_17 : decode cX10_arrival 17 = .ok (.ireturn, 1) := by decide +kernel
theorem dX10_routeCost_0 : decode cX10_routeCost 0 = .ok (.aload_n 0, 1) := by decide +kernel
theorem dX10_routeCost_1 : decode cX10_routeCost 1 = .ok (.iload_n 1, 1) := by decide +kernel
theorem dX10_routeCost_2 : decode cX10_routeCost 2 = .ok (.iload_n 2, 1) := by decide +kernel
theorem dX10_routeCost_3 : decode cX10_routeCost 3 = .ok (.invokevirtual 191, 3) := by decide +kernel
theorem dX10_routeCost_6 : decode cX10_routeCost 6 = .ok (.ifCond .le 7, 3) := by decide +kernel
theorem dX10_routeCost_9 : decode cX10_routeCost 9 = .ok (.iconst 0, 1) := by decide +kernel
theorem dX10_routeCost_10 : decode cX10_routeCost 10 = .ok (.goto 7, 3) := by decide +kernel
theorem dX10_routeCost_13 : decode cX10_routeCost 13 = .ok (.aload_n 0, 1) := by decide +kernel
theorem dX10_routeCost_14 : decode cX10_routeCost 14 = .ok (.getfield 119, 3) := by decide +kernel
theorem dX10_routeCost_17 : decode cX10_routeCost 17 = .ok (.ireturn, 1) := by decide +kernel
theorem dX10_action_0 : decode cX10_action 0 = .ok (.aload_n 0, 1) := by decide +kernel
theorem dX10_action_1 : decode cX10_action 1 = .ok (.iconst 0, 1) := by decide +kernel
theorem dX10_action_2 : decode cX10_action 2 = .ok (.putfield 51, 3) := by decide +kernel
theorem dX10_action_5 : decode cX10_action 5 = .ok (.aload_n 0, 1) := by decide +kernel
theorem dX10_action_6 : decode cX10_action 6 = .ok (.iload_n 1, 1) := by decide +kernel
theorem dX10_action_7 : decode cX10_action 7 = .ok (.invokevirtual 173, 3) := by decide +kernel
theorem dX10_action_10 : decode cX10_action 10 = .ok (.ifCond .ne 9, 3) := by decide +kernel
theorem dX10_action_13 : decode cX10_action 13 = .ok (.aload_n 0, 1) := by decide +kernel
theorem dX10_action_14 : decode cX10_action 14 = .ok (.iconst 1, 1) := by decide +kernel
theorem dX10_action_15 : decode cX10_action 15 = .ok (.invokevirtual 164, 3) := by decide +kernel
theorem dX10_action_18 : decode cX10_action 18 = .ok (.ireturn, 1) := by decide +kernel
theorem dX10_action_19 : decode cX10_action 19 = .ok (.iload_n 2, 1) := by decide +kernel
theorem dX10_action_20 : decode cX10_action 20 = .ok (.iconst 0, 1) := by decide +kernel
theorem dX10_action_21 : decode cX10_action 21 = .ok (.aload_n 0, 1) := by decide +kernel
theorem dX10_action_22 : decode cX10_action 22 = .ok (.iload_n 1, 1) := by decide +kernel
theorem dX10_action_23 : decode cX10_action 23 = .ok (.iconst 2, 1) := by decide +kernel
theorem dX10_action_24 : decode cX10_action 24 = .ok (.invokevirtual 58, 3) := by decide +kernel
theorem dX10_action_27 : decode cX10_action 27 = .ok (.iconst 1, 1) := by decide +kernel
theorem dX10_action_28 : decode cX10_action 28 = .ok (.isub, 1) := by decide +kernel
theorem dX10_action_29 : decode cX10_action 29 = .ok (.invokestatic 54, 3) := by decide +kernel
theorem dX10_action_32 : decode cX10_action 32 = .ok (.ifCond .eq 12, 3) := by decide +kernel
theorem dX10_action_35 : decode cX10_action 35 = .ok (.aload_n 0, 1) := by decide +kernel
theorem dX10_action_36 : decode cX10_action 36 = .ok (.iload_n 1, 1) := by decide +kernel
theorem dX10_action_37 : decode cX10_action 37 = .ok (.iload_n 2, 1) := by decide +kernel
theorem dX10_action_38 : decode cX10_action 38 = .ok (.invokevirtual 65, 3) := by decide +kernel
theorem dX10_action_41 : decode cX10_action 41 = .ok (.goto 8, 3) := by decide +kernel
theorem dX10_action_44 : decode cX10_action 44 = .ok (.aload_n 0, 1) := by decide +kernel
theorem dX10_action_45 : decode cX10_action 45 = .ok (.iconst 2, 1) := by decide +kernel
theorem dX10_action_46 : decode cX10_action 46 = .ok (.invokevirtual 164, 3) := by decide +kernel
theorem dX10_action_49 : decode cX10_action 49 = .ok (.ireturn, 1) := by decide +kernel
theorem dX10_cellAfter_0 : decode cX10_cellAfter 0 = .ok (.aload_n 0, 1) := by decide +kernel
theorem dX10_cellAfter_1 : decode cX10_cellAfter 1 = .ok (.iconst 0, 1) := by decide +kernel
theorem dX10_cellAfter_2 : decode cX10_cellAfter 2 = .ok (.putfield 51, 3) := by decide +kernel
theorem dX10_cellAfter_5 : decode cX10_cellAfter 5 = .ok (.aload_n 0, 1) := by decide +kernel
theorem dX10_cellAfter_6 : decode cX10_cellAfter 6 = .ok (.iload_n 1, 1) := by decide +kernel
theorem dX10_cellAfter_7 : decode cX10_cellAfter 7 = .ok (.invokevirtual 173, 3) := by decide +kernel
theorem dX10_cellAfter_10 : decode cX10_cellAfter 10 = .ok (.ifCond .ne 9, 3) := by decide +kernel
theorem dX10_cellAfter_13 : decode cX10_cellAfter 13 = .ok (.aload_n 0, 1) := by decide +kernel
theorem dX10_cellAfter_14 : decode cX10_cellAfter 14 = .ok (.iconst 1, 1) := by decide +kernel
theorem dX10_cellAfter_15 : decode cX10_cellAfter 15 = .ok (.invokevirtual 164, 3) := by decide +kernel
theorem dX10_cellAfter_18 : decode cX10_cellAfter 18 = .ok (.ireturn, 1) := by decide +kernel
theorem dX10_cellAfter_19 : decode cX10_cellAfter 19 = .ok (.iload_n 2, 1) := by decide +kernel
theorem dX10_cellAfter_20 : decode cX10_cellAfter 20 = .ok (.iconst 0, 1) := by decide +kernel
theorem dX10_cellAfter_21 : decode cX10_cellAfter 21 = .ok (.bipush 30, 2) := by decide +kernel
theorem dX10_cellAfter_23 : decode cX10_cellAfter 23 = .ok (.invokestatic 54, 3) := by decide +kernel
theorem dX10_cellAfter_26 : decode cX10_cellAfter 26 = .ok (.ifCond .ne 9, 3) := by decide +kernel
theorem dX10_cellAfter_29 : decode cX10_cellAfter 29 = .ok (.aload_n 0, 1) := by decide +kernel
theorem dX10_cellAfter_30 : decode cX10_cellAfter 30 = .ok (.iconst 2, 1) := by decide +kernel
theorem dX10_cellAfter_31 : decode cX10_cellAfter 31 = .ok (.invokevirtual 164, 3) := by decide +kernel
theorem dX10_cellAfter_34 : decode cX10_cellAfter 34 = .ok (.ireturn, 1) := by decide +kernel
theorem dX10_cellAfter_35 : decode cX10_cellAfter 35 = .ok (.aload_n 0, 1) := by decide +kernel
theorem dX10_cellAfter_36 : decode cX10_cellAfter 36 = .ok (.iload_n 1, 1) := by decide +kernel
theorem dX10_cellAfter_37 : decode cX10_cellAfter 37 = .ok (.invokevirtual 75, 3) := by decide +kernel
theorem dX10_cellAfter_40 : decode cX10_cellAfter 40 = .ok (.aload_n 0, 1) := by decide +kernel
theorem dX10_cellAfter_41 : decode cX10_cellAfter 41 = .ok (.getfield 29, 3) := by decide +kernel
theorem dX10_cellAfter_44 : decode cX10_cellAfter 44 = .ok (.bipush 31, 2) := by decide +kernel
theorem dX10_cellAfter_46 : decode cX10_cellAfter 46 = .ok (.iload_n 1, 1) := by decide +kernel
theorem dX10_cellAfter_47 : decode cX10_cellAfter 47 = .ok (.imul, 1) := by decide +kernel
theorem dX10_cellAfter_48 : decode cX10_cellAfter 48 = .ok (.iload_n 2, 1) := by decide +kernel
theorem dX10_cellAfter_49 : decode cX10_cellAfter 49 = .ok (.iadd, 1) := by decide +kernel
theorem dX10_cellAfter_50 : decode cX10_cellAfter 50 = .ok (.iaload, 1) := by decide +kernel
theorem dX10_cellAfter_51 : decode cX10_cellAfter 51 = .ok (.ireturn, 1) := by decide +kernel
theorem dX10_robotAt_0 : decode cX10_robotAt 0 = .ok (.aload_n 0, 1) := by decide +kernel
theorem dX10_robotAt_1 : decode cX10_robotAt 1 = .ok (.iconst 0, 1) := by decide +kernel
theorem dX10_robotAt_2 : decode cX10_robotAt 2 = .ok (.putfield 51, 3) := by decide +kernel
theorem dX10_robotAt_5 : decode cX10_robotAt 5 = .ok (.iload_n 1, 1) := by decide +kernel
theorem dX10_robotAt_6 : decode cX10_robotAt 6 = .ok (.invokestatic 161, 3) := by decide +kernel
theorem dX10_robotAt_9 : decode cX10_robotAt 9 = .ok (.ifCond .ne 9, 3) := by decide +kernel
theorem dX10_robotAt_12 : decode cX10_robotAt 12 = .ok (.aload_n 0, 1) := by decide +kernel
theorem dX10_robotAt_13 : decode cX10_robotAt 13 = .ok (.iconst 1, 1) := by decide +kernel
theorem dX10_robotAt_14 : decode cX10_robotAt 14 = .ok (.invokevirtual 164, 3) := by decide +kernel
theorem dX10_robotAt_17 : decode cX10_robotAt 17 = .ok (.ireturn, 1) := by decide +kernel
theorem dX10_robotAt_18 : decode cX10_robotAt 18 = .ok (.iload_n 2, 1) := by decide +kernel
theorem dX10_robotAt_19 : decode cX10_robotAt 19 = .ok (.iconst 0, 1) := by decide +kernel
theorem dX10_robotAt_20 : decode cX10_robotAt 20 = .ok (.bipush 30, 2) := by decide +kernel
theorem dX10_robotAt_22 : decode cX10_robotAt 22 = .ok (.invokestatic 54, 3) := by decide +kernel
theorem dX10_robotAt_25 : decode cX10_robotAt 25 = .ok (.ifCond .ne 9, 3) := by decide +kernel
theorem dX10_robotAt_28 : decode cX10_robotAt 28 = .ok (.aload_n 0, 1) := by decide +kernel
theorem dX10_robotAt_29 : decode cX10_robotAt 29 = .ok (.iconst 2, 1) := by decide +kernel
theorem dX10_robotAt_30 : decode cX10_robotAt 30 = .ok (.invokevirtual 164, 3) := by decide +kernel
theorem dX10_robotAt_33 : decode cX10_robotAt 33 = .ok (.ireturn, 1) := by decide +kernel
theorem dX10_robotAt_34 : decode cX10_robotAt 34 = .ok (.aload_n 0, 1) := by decide +kernel
theorem dX10_robotAt_35 : decode cX10_robotAt 35 = .ok (.invokevirtual 132, 3) := by decide +kernel
theorem dX10_robotAt_38 : decode cX10_robotAt 38 = .ok (.iconst 0, 1) := by decide +kernel
theorem dX10_robotAt_39 : decode cX10_robotAt 39 = .ok (.istore_n 3, 1) := by decide +kernel
theorem dX10_robotAt_40 : decode cX10_robotAt 40 = .ok (.iload_n 3, 1) := by decide +kernel
theorem dX10_robotAt_41 : decode cX10_robotAt 41 = .ok (.aload_n 0, 1) := by decide +kernel
theorem dX10_robotAt_42 : decode cX10_robotAt 42 = .ok (.getfield 7, 3) := by decide +kernel
theorem dX10_robotAt_45 : decode cX10_robotAt 45 = .ok (.bipush 6, 2) := by decide +kernel
theorem dX10_robotAt_47 : decode cX10_robotAt 47 = .ok (.iaload, 1) := by decide +kernel
theorem dX10_robotAt_48 : decode cX10_robotAt 48 = .ok (.if_icmp .ge 26, 3) := by decide +kernel
theorem dX10_robotAt_51 : decode cX10_robotAt 51 = .ok (.aload_n 0, 1) := by decide +kernel
theorem dX10_robotAt_52 : decode cX10_robotAt 52 = .ok (.getfield 29, 3) := by decide +kernel
theorem dX10_robotAt_55 : decode cX10_robotAt 55 = .ok (.bipush 31, 2) := by decide +kernel
theorem dX10_robotAt_57 : decode cX10_robotAt 57 = .ok (.iload_n 3, 1) := by decide +kernel
theorem dX10_robotAt_58 : decode cX10_robotAt 58 = .ok (.imul, 1) := by decide +kernel
theorem dX10_robotAt_59 : decode cX10_robotAt 59 = .ok (.iload_n 2, 1) := by decide +kernel
theorem dX10_robotAt_60 : decode cX10_robotAt 60 = .ok (.iadd, 1) := by decide +kernel
theorem dX10_robotAt_61 : decode cX10_robotAt 61 = .ok (.iaload, 1) := by decide +kernel
theorem dX10_robotAt_62 : decode cX10_robotAt 62 = .ok (.iload_n 1, 1) := by decide +kernel
theorem dX10_robotAt_63 : decode cX10_robotAt 63 = .ok (.if_icmp .ne 5, 3) := by decide +kernel
theorem dX10_robotAt_66 : decode cX10_robotAt 66 = .ok (.iload_n 3, 1) := by decide +kernel
theorem dX10_robotAt_67 : decode cX10_robotAt 67 = .ok (.ireturn, 1) := by decide +kernel
theorem dX10_robotAt_68 : decode cX10_robotAt 68 = .ok (.iinc 3 1, 3) := by decide +kernel
theorem dX10_robotAt_71 : decode cX10_robotAt 71 = .ok (.goto (-31), 3) := by decide +kernel
theorem dX10_robotAt_74 : decode cX10_robotAt 74 = .ok (.iconst (-1), 1) := by decide +kernel
theorem dX10_robotAt_75 : decode cX10_robotAt 75 = .ok (.ireturn, 1) := by decide +kernel
theorem dX10_cancel_0 : decode cX10_cancel 0 = .ok (.aload_n 0, 1) := by decide +kernel
theorem dX10_cancel_1 : decode cX10_cancel 1 = .ok (.iconst 0, 1) := by decide +kernel
theorem dX10_cancel_2 : decode cX10_cancel 2 = .ok (.putfield 51, 3) := by decide +kernel
theorem dX10_cancel_5 : decode cX10_cancel 5 = .ok (.aload_n 0, 1) := by decide +kernel
theorem dX10_cancel_6 : decode cX10_cancel 6 = .ok (.iload_n 1, 1) := by decide +kernel
theorem dX10_cancel_7 : decode cX10_cancel 7 = .ok (.invokevirtual 173, 3) := by decide +kernel
theorem dX10_cancel_10 : decode cX10_cancel 10 = .ok (.ifCond .ne 9, 3) := by decide +kernel
theorem dX10_cancel_13 : decode cX10_cancel 13 = .ok (.aload_n 0, 1) := by decide +kernel
theorem dX10_cancel_14 : decode cX10_cancel 14 = .ok (.iconst 1, 1) := by decide +kernel
theorem dX10_cancel_15 : decode cX10_cancel 15 = .ok (.invokevirtual 164, 3) := by decide +kernel
theorem dX10_cancel_18 : decode cX10_cancel 18 = .ok (.ireturn, 1) := by decide +kernel
theorem dX10_cancel_19 : decode cX10_cancel 19 = .ok (.aload_n 0, 1) := by decide +kernel
theorem dX10_cancel_20 : decode cX10_cancel 20 = .ok (.iload_n 1, 1) := by decide +kernel
theorem dX10_cancel_21 : decode cX10_cancel 21 = .ok (.invokevirtual 151, 3) := by decide +kernel
theorem dX10_cancel_24 : decode cX10_cancel 24 = .ok (.ifCond .eq 9, 3) := by decide +kernel
theorem dX10_cancel_27 : decode cX10_cancel 27 = .ok (.aload_n 0, 1) := by decide +kernel
theorem dX10_cancel_28 : decode cX10_cancel 28 = .ok (.iconst 2, 1) := by decide +kernel
theorem dX10_cancel_29 : decode cX10_cancel 29 = .ok (.invokevirtual 164, 3) := by decide +kernel
theorem dX10_cancel_32 : decode cX10_cancel 32 = .ok (.ireturn, 1) := by decide +kernel
theorem dX10_cancel_33 : decode cX10_cancel 33 = .ok (.aload_n 0, 1) := by decide +kernel
theorem dX10_cancel_34 : decode cX10_cancel 34 = .ok (.invokevirtual 132, 3) := by decide +kernel
theorem dX10_cancel_37 : decode cX10_cancel 37 = .ok (.aload_n 0, 1) := by decide +kernel
theorem dX10_cancel_38 : decode cX10_cancel 38 = .ok (.iload_n 1, 1) := by decide +kernel
theorem dX10_cancel_39 : decode cX10_cancel 39 = .ok (.aload_n 0, 1) := by decide +kernel
theorem dX10_cancel_40 : decode cX10_cancel 40 = .ok (.iload_n 1, 1) := by decide +kernel
theorem dX10_cancel_41 : decode cX10_cancel 41 = .ok (.iconst 0, 1) := by decide +kernel
theorem dX10_cancel_42 : decode cX10_cancel 42 = .ok (.invokevirtual 58, 3) := by decide +kernel
theorem dX10_cancel_45 : decode cX10_cancel 45 = .ok (.iconst 0, 1) := by decide +kernel
theorem dX10_cancel_46 : decode cX10_cancel 46 = .ok (.bipush 30, 2) := by decide +kernel
theorem dX10_cancel_48 : decode cX10_cancel 48 = .ok (.invokevirtual 112, 3) := by decide +kernel
theorem dX10_cancel_51 : decode cX10_cancel 51 = .ok (.ifCond .ne 9, 3) := by decide +kernel
theorem dX10_cancel_54 : decode cX10_cancel 54 = .ok (.aload_n 0, 1) := by decide +kernel
theorem dX10_cancel_55 : decode cX10_cancel 55 = .ok (.iconst 3, 1) := by decide +kernel
theorem dX10_cancel_56 : decode cX10_cancel 56 = .ok (.invokevirtual 164, 3) := by decide +kernel
theorem dX10_cancel_59 : decode cX10_cancel 59 = .ok (.ireturn, 1) := by decide +kernel
theorem dX10_cancel_60 : decode cX10_cancel 60 = .ok (.aload_n 0, 1) := by decide +kernel
theorem dX10_cancel_61 : decode cX10_cancel 61 = .ok (.iload_n 1, 1) := by decide +kernel
theorem dX10_cancel_62 : decode cX10_cancel 62 = .ok (.invokevirtual 176, 3) := by decide +kernel
theorem dX10_cancel_65 : decode cX10_cancel 65 = .ok (.istore_n 2, 1) := by decide +kernel
theorem dX10_cancel_66 : decode cX10_cancel 66 = .ok (.aload_n 0, 1) := by decide +kernel
theorem dX10_cancel_67 : decode cX10_cancel 67 = .ok (.invokevirtual 135, 3) := by decide +kernel
theorem dX10_cancel_70 : decode cX10_cancel 70 = .ok (.aload_n 0, 1) := by decide +kernel
theorem dX10_cancel_71 : decode cX10_cancel 71 = .ok (.iload_n 1, 1) := by decide +kernel
theorem dX10_cancel_72 : decode cX10_cancel 72 = .ok (.invokevirtual 194, 3) := by decide +kernel
theorem dX10_cancel_75 : decode cX10_cancel 75 = .ok (.iload_n 2, 1) := by decide +kernel
theorem dX10_cancel_76 : decode cX10_cancel 76 = .ok (.ireturn, 1) := by decide +kernel
theorem dX10_blockers_0 : decode cX10_blockers 0 = .ok (.aload_n 0, 1) := by decide +kernel
theorem dX10_blockers_1 : decode cX10_blockers 1 = .ok (.iconst 0, 1) := by decide +kernel
theorem dX10_blockers_2 : decode cX10_blockers 2 = .ok (.putfield 51, 3) := by decide +kernel
theorem dX10_blockers_5 : decode cX10_blockers 5 = .ok (.aload_n 0, 1) := by decide +kernel
theorem dX10_blockers_6 : decode cX10_blockers 6 = .ok (.iload_n 1, 1) := by decide +kernel
theorem dX10_blockers_7 : decode cX10_blockers 7 = .ok (.invokevirtual 173, 3) := by decide +kernel
theorem dX10_blockers_10 : decode cX10_blockers 10 = .ok (.ifCond .eq 10, 3) := by decide +kernel
theorem dX10_blockers_13 : decode cX10_blockers 13 = .ok (.iload_n 2, 1) := by decide +kernel
theorem dX10_blockers_14 : decode cX10_blockers 14 = .ok (.invokestatic 161, 3) := by decide +kernel
theorem dX10_blockers_17 : decode cX10_blockers 17 = .ok (.ifCond .ne 9, 3) := by decide +kernel
theorem dX10_blockers_20 : decode cX10_blockers 20 = .ok (.aload_n 0, 1) := by decide +kernel
theorem dX10_blockers_21 : decode cX10_blockers 21 = .ok (.iconst 1, 1) := by decide +kernel
theorem dX10_blockers_22 : decode cX10_blockers 22 = .ok (.invokevirtual 164, 3) := by decide +kernel
theorem dX10_blockers_25 : decode cX10_blockers 25 = .ok (.ireturn, 1) := by decide +kernel
theorem dX10_blockers_26 : decode cX10_blockers 26 = .ok (.aload_n 0, 1) := by decide +kernel
theorem dX10_blockers_27 : decode cX10_blockers 27 = .ok (.iload_n 1, 1) := by decide +kernel
theorem dX10_blockers_28 : decode cX10_blockers 28 = .ok (.invokevirtual 151, 3) := by decide +kernel
theorem dX10_blockers_31 : decode cX10_blockers 31 = .ok (.ifCond .ne 12, 3) := by decide +kernel
theorem dX10_blockers_34 : decode cX10_blockers 34 = .ok (.aload_n 0, 1) := by decide +kernel
theorem dX10_blockers_35 : decode cX10_blockers 35 = .ok (.iload_n 1, 1) := by decide +kernel
theorem dX10_blockers_36 : decode cX10_blockers 36 = .ok (.iload_n 2, 1) := by decide +kernel
theorem dX10_blockers_37 : decode cX10_blockers 37 = .ok (.invokevirtual 154, 3) := by decide +kernel
theorem dX10_blockers_40 : decode cX10_blockers 40 = .ok (.ifCond .eq 5, 3) := by decide +kernel
theorem dX10_blockers_43 : decode cX10_blockers 43 = .ok (.iconst 0, 1) := by decide +kernel
theorem dX10_blockers_44 : decode cX10_blockers 44 = .ok (.ireturn, 1) := by decide +kernel
theorem dX10_blockers_45 : decode cX10_blockers 45 = .ok (.iconst 0, 1) := by decide +kernel
theorem dX10_blockers_46 : decode cX10_blockers 46 = .ok (.istore_n 3, 1) := by decide +kernel
theorem dX10_blockers_47 : decode cX10_blockers 47 = .ok (.iconst 0, 1) := by decide +kernel
theorem dX10_blockers_48 : decode cX10_blockers 48 = .ok (.istore 4, 2) := by decide +kernel
theorem dX10_blockers_50 : decode cX10_blockers 50 = .ok (.iload 4, 2) := by decide +kernel
theorem dX10_blockers_52 : decode cX10_blockers 52 = .ok (.aload_n 0, 1) := by decide +kernel
theorem dX10_blockers_53 : decode cX10_blockers 53 = .ok (.getfield 7, 3) := by decide +kernel
theorem dX10_blockers_56 : decode cX10_blockers 56 = .ok (.bipush 6, 2) := by decide +kernel
theorem dX10_blockers_58 : decode cX10_blockers 58 = .ok (.iaload, 1) := by decide +kernel
theorem dX10_blockers_59 : decode cX10_blockers 59 = .ok (.if_icmp .ge 41, 3) := by decide +kernel
theorem dX10_blockers_62 : decode cX10_blockers 62 = .ok (.iload 4, 2) := by decide +kernel
theorem dX10_blockers_64 : decode cX10_blockers 64 = .ok (.iload_n 1, 1) := by decide +kernel
theorem dX10_blockers_65 : decode cX10_blockers 65 = .ok (.if_icmp .eq 29, 3) := by decide +kernel
theorem dX10_blockers_68 : decode cX10_blockers 68 = .ok (.aload_n 0, 1) := by decide +kernel
theorem dX10_blockers_69 : decode cX10_blockers 69 = .ok (.iload 4, 2) := by decide +kernel
theorem dX10_blockers_71 : decode cX10_blockers 71 = .ok (.putfield 35, 3) := by decide +kernel
theorem dX10_blockers_74 : decode cX10_blockers 74 = .ok (.iload_n 3, 1) := by decide +kernel
theorem dX10_blockers_75 : decode cX10_blockers 75 = .ok (.aload_n 0, 1) := by decide +kernel
theorem dX10_blockers_76 : decode cX10_blockers 76 = .ok (.iload_n 1, 1) := by decide +kernel
theorem dX10_blockers_77 : decode cX10_blockers 77 = .ok (.iload_n 2, 1) := by decide +kernel
theorem dX10_blockers_78 : decode cX10_blockers 78 = .ok (.invokevirtual 154, 3) := by decide +kernel
theorem dX10_blockers_81 : decode cX10_blockers 81 = .ok (.ifCond .eq 10, 3) := by decide +kernel
theorem dX10_blockers_84 : decode cX10_blockers 84 = .ok (.iconst 1, 1) := by decide +kernel
theorem dX10_blockers_85 : decode cX10_blockers 85 = .ok (.iload 4, 2) := by decide +kernel
theorem dX10_blockers_87 : decode cX10_blockers 87 = .ok (.ishl, 1) := by decide +kernel
theorem dX10_blockers_88 : decode cX10_blockers 88 = .ok (.goto 4, 3) := by decide +kernel
theorem dX10_blockers_91 : decode cX10_blockers 91 = .ok (.iconst 0, 1) := by decide +kernel
theorem dX10_blockers_92 : decode cX10_blockers 92 = .ok (.ior, 1) := by decide +kernel
theorem dX10_blockers_93 : decode cX10_blockers 93 = .ok (.istore_n 3, 1) := by decide +kernel
theorem dX10_blockers_94 : decode cX10_blockers 94 = .ok (.iinc 4 1, 3) := by decide +kernel
theorem dX10_blockers_97 : decode cX10_blockers 97 = .ok (.goto (-47), 3) := by decide +kernel
theorem dX10_blockers_100 : decode cX10_blockers 100 = .ok (.aload_n 0, 1) := by decide +kernel
theorem dX10_blockers_101 : decode cX10_blockers 101 = .ok (.iconst (-1), 1) := by decide +kernel
theorem dX10_blockers_102 : decode cX10_blockers 102 = .ok (.putfield 35, 3) := by decide +kernel
theorem dX10_blockers_105 : decode cX10_blockers 105 = .ok (.iload_n 3, 1) := by decide +kernel
theorem dX10_blockers_106 : decode cX10_blockers 106 = .ok (.ireturn, 1) := by decide +kernel
theorem dX10_isIdle_0 : decode cX10_isIdle 0 = .ok (.aload_n 0, 1) := by decide +kernel
theorem dX10_isIdle_1 : decode cX10_isIdle 1 = .ok (.iload_n 1, 1) := by decide +kernel
theorem dX10_isIdle_2 : decode cX10_isIdle 2 = .ok (.iconst 2, 1) := by decide +kernel
theorem dX10_isIdle_3 : decode cX10_isIdle 3 = .ok (.invokevirtual 58, 3) := by decide +kernel
theorem dX10_isIdle_6 : decode cX10_isIdle 6 = .ok (.ifCond .ne 7, 3) := by decide +kernel
theorem dX10_isIdle_9 : decode cX10_isIdle 9 = .ok (.iconst 1, 1) := by decide +kernel
theorem dX10_isIdle_10 : decode cX10_isIdle 10 = .ok (.goto 4, 3) := by decide +kernel
theorem dX10_isIdle_13 : decode cX10_isIdle 13 = .ok (.iconst 0, 1) := by decide +kernel
theorem dX10_isIdle_14 : decode cX10_isIdle 14 = .ok (.ireturn, 1) := by decide +kernel
theorem dX10_makes_0 : decode cX10_makes 0 = .ok (.aload_n 0, 1) := by decide +kernel
theorem dX10_makes_1 : decode cX10_makes 1 = .ok (.iload_n 3, 1) := by decide +kernel
theorem dX10_makes_2 : decode cX10_makes 2 = .ok (.iload 4, 2) := by decide +kernel
theorem dX10_makes_4 : decode cX10_makes 4 = .ok (.invokevirtual 197, 3) := by decide +kernel
theorem dX10_makes_7 : decode cX10_makes 7 = .ok (.ifCond .ne 5, 3) := by decide +kernel
theorem dX10_makes_10 : decode cX10_makes 10 = .ok (.iconst 0, 1) := by decide +kernel
theorem dX10_makes_11 : decode cX10_makes 11 = .ok (.ireturn, 1) := by decide +kernel
theorem dX10_makes_12 : decode cX10_makes 12 = .ok (.aload_n 0, 1) := by decide +kernel
theorem dX10_makes_13 : decode cX10_makes 13 = .ok (.iload_n 3, 1) := by decide +kernel
theorem dX10_makes_14 : decode cX10_makes 14 = .ok (.invokevirtual 194, 3) := by decide +kernel
theorem dX10_makes_17 : decode cX10_makes 17 = .ok (.aload_n 0, 1) := by decide +kernel
theorem dX10_makes_18 : decode cX10_makes 18 = .ok (.iload_n 1, 1) := by decide +kernel
theorem dX10_makes_19 : decode cX10_makes 19 = .ok (.iload_n 2, 1) := by decide +kernel
theorem dX10_makes_20 : decode cX10_makes 20 = .ok (.invokevirtual 197, 3) := by decide +kernel
theorem dX10_makes_23 : decode cX10_makes 23 = .ok (.ifCond .eq 10, 3) := by decide +kernel
theorem dX10_makes_26 : decode cX10_makes 26 = .ok (.aload_n 0, 1) := by decide +kernel
theorem dX10_makes_27 : decode cX10_makes 27 = .ok (.iload_n 1, 1) := by decide +kernel
theorem dX10_makes_28 : decode cX10_makes 28 = .ok (.invokevirtual 194, 3) := by decide +kernel
theorem dX10_makes_31 : decode cX10_makes 31 = .ok (.iconst 1, 1) := by decide +kernel
theorem dX10_makes_32 : decode cX10_makes 32 = .ok (.ireturn, 1) := by decide +kernel
theorem dX10_makes_33 : decode cX10_makes 33 = .ok (.aload_n 0, 1) := by decide +kernel
theorem dX10_makes_34 : decode cX10_makes 34 = .ok (.iload_n 3, 1) := by decide +kernel
theorem dX10_makes_35 : decode cX10_makes 35 = .ok (.iconst 2, 1) := by decide +kernel
theorem dX10_makes_36 : decode cX10_makes 36 = .ok (.iconst 0, 1) := by decide +kernel
theorem dX10_makes_37 : decode cX10_makes 37 = .ok (.invokevirtual 145, 3) := by decide +kernel
theorem dX10_makes_40 : decode cX10_makes 40 = .ok (.iconst 0, 1) := by decide +kernel
theorem dX10_makes_41 : decode cX10_makes 41 = .ok (.ireturn, 1) := by decide +kernel
theorem dX10_makeWay_0 : decode cX10_makeWay 0 = .ok (.aload_n 0, 1) := by decide +kernel
theorem dX10_makeWay_1 : decode cX10_makeWay 1 = .ok (.iconst 0, 1) := by decide +kernel
theorem dX10_makeWay_2 : decode cX10_makeWay 2 = .ok (.putfield 51, 3) := by decide +kernel
theorem dX10_makeWay_5 : decode cX10_makeWay 5 = .ok (.aload_n 0, 1) := by decide +kernel
theorem dX10_makeWay_6 : decode cX10_makeWay 6 = .ok (.iload_n 1, 1) := by decide +kernel
theorem dX10_makeWay_7 : decode cX10_makeWay 7 = .ok (.invokevirtual 173, 3) := by decide +kernel
theorem dX10_makeWay_10 : decode cX10_makeWay 10 = .ok (.ifCond .eq 10, 3) := by decide +kernel
theorem dX10_makeWay_13 : decode cX10_makeWay 13 = .ok (.iload_n 2, 1) := by decide +kernel
theorem dX10_makeWay_14 : decode cX10_makeWay 14 = .ok (.invokestatic 161, 3) := by decide +kernel
theorem dX10_makeWay_17 : decode cX10_makeWay 17 = .ok (.ifCond .ne 9, 3) := by decide +kernel
theorem dX10_makeWay_20 : decode cX10_makeWay 20 = .ok (.aload_n 0, 1) := by decide +kernel
theorem dX10_makeWay_21 : decode cX10_makeWay 21 = .ok (.iconst 1, 1) := by decide +kernel
theorem dX10_makeWay_22 : decode cX10_makeWay 22 = .ok (.invokevirtual 164, 3) := by decide +kernel
theorem dX10_makeWay_25 : decode cX10_makeWay 25 = .ok (.ireturn, 1) := by decide +kernel
theorem dX10_makeWay_26 : decode cX10_makeWay 26 = .ok (.aload_n 0, 1) := by decide +kernel
theorem dX10_makeWay_27 : decode cX10_makeWay 27 = .ok (.iload_n 1, 1) := by decide +kernel
theorem dX10_makeWay_28 : decode cX10_makeWay 28 = .ok (.invokevirtual 151, 3) := by decide +kernel
theorem dX10_makeWay_31 : decode cX10_makeWay 31 = .ok (.ifCond .ne 12, 3) := by decide +kernel
theorem dX10_makeWay_34 : decode cX10_makeWay 34 = .ok (.aload_n 0, 1) := by decide +kernel
theorem dX10_makeWay_35 : decode cX10_makeWay 35 = .ok (.iload_n 1, 1) := by decide +kernel
theorem dX10_makeWay_36 : decode cX10_makeWay 36 = .ok (.iload_n 2, 1) := by decide +kernel
theorem dX10_makeWay_37 : decode cX10_makeWay 37 = .ok (.invokevirtual 197, 3) := by decide +kernel
theorem dX10_makeWay_40 : decode cX10_makeWay 40 = .ok (.ifCond .eq 9, 3) := by decide +kernel
theorem dX10_makeWay_43 : decode cX10_makeWay 43 = .ok (.aload_n 0, 1) := by decide +kernel
theorem dX10_makeWay_44 : decode cX10_makeWay 44 = .ok (.iconst 2, 1) := by decide +kernel
theorem dX10_makeWay_45 : decode cX10_makeWay 45 = .ok (.invokevirtual 164, 3) := by decide +kernel
theorem dX10_makeWay_48 : decode cX10_makeWay 48 = .ok (.ireturn, 1) := by decide +kernel
theorem dX10_makeWay_49 : decode cX10_makeWay 49 = .ok (.iconst 0, 1) := by decide +kernel
theorem dX10_makeWay_50 : decode cX10_makeWay 50 = .ok (.istore_n 3, 1) := by decide +kernel
theorem dX10_makeWay_51 : decode cX10_makeWay 51 = .ok (.iload_n 3, 1) := by decide +kernel
theorem dX10_makeWay_52 : decode cX10_makeWay 52 = .ok (.aload_n 0, 1) := by decide +kernel
theorem dX10_makeWay_53 : decode cX10_makeWay 53 = .ok (.getfield 7, 3) := by decide +kernel
theorem dX10_makeWay_56 : decode cX10_makeWay 56 = .ok (.bipush 6, 2) := by decide +kernel
theorem dX10_makeWay_58 : decode cX10_makeWay 58 = .ok (.iaload, 1) := by decide +kernel
theorem dX10_makeWay_59 : decode cX10_makeWay 59 = .ok (.if_icmp .ge 64, 3) := by decide +kernel
theorem dX10_makeWay_62 : decode cX10_makeWay 62 = .ok (.iload_n 3, 1) := by decide +kernel
theorem dX10_makeWay_63 : decode cX10_makeWay 63 = .ok (.iload_n 1, 1) := by decide +kernel
theorem dX10_makeWay_64 : decode cX10_makeWay 64 = .ok (.if_icmp .eq 15, 3) := by decide +kernel
theorem dX10_makeWay_67 : decode cX10_makeWay 67 = .ok (.aload_n 0, 1) := by decide +kernel
theorem dX10_makeWay_68 : decode cX10_makeWay 68 = .ok (.iload_n 3, 1) := by decide +kernel
theorem dX10_makeWay_69 : decode cX10_makeWay 69 = .ok (.invokevirtual 200, 3) := by decide +kernel
theorem dX10_makeWay_72 : decode cX10_makeWay 72 = .ok (.ifCond .eq 7, 3) := by decide +kernel
theorem dX10_makeWay_75 : decode cX10_makeWay 75 = .ok (.iconst 1, 1) := by decide +kernel
theorem dX10_makeWay_76 : decode cX10_makeWay 76 = .ok (.goto 4, 3) := by decide +kernel
theorem dX10_makeWay_79 : decode cX10_makeWay 79 = .ok (.iconst 0, 1) := by decide +kernel
theorem dX10_makeWay_80 : decode cX10_makeWay 80 = .ok (.istore 4, 2) := by decide +kernel
theorem dX10_makeWay_82 : decode cX10_makeWay 82 = .ok (.iconst 0, 1) := by decide +kernel
theorem dX10_makeWay_83 : decode cX10_makeWay 83 = .ok (.istore 5, 2) := by decide +kernel
theorem dX10_makeWay_85 : decode cX10_makeWay 85 = .ok (.iload 5, 2) := by decide +kernel
theorem dX10_makeWay_87 : decode cX10_makeWay 87 = .ok (.bipush 40, 2) := by decide +kernel
theorem dX10_makeWay_89 : decode cX10_makeWay 89 = .ok (.if_icmp .ge 28, 3) := by decide +kernel
theorem dX10_makeWay_92 : decode cX10_makeWay 92 = .ok (.iload 4, 2) := by decide +kernel
theorem dX10_makeWay_94 : decode cX10_makeWay 94 = .ok (.ifCond .eq 23, 3) := by decide +kernel
theorem dX10_makeWay_97 : decode cX10_makeWay 97 = .ok (.aload_n 0, 1) := by decide +kernel
theorem dX10_makeWay_98 : decode cX10_makeWay 98 = .ok (.iload_n 1, 1) := by decide +kernel
theorem dX10_makeWay_99 : decode cX10_makeWay 99 = .ok (.iload_n 2, 1) := by decide +kernel
theorem dX10_makeWay_100 : decode cX10_makeWay 100 = .ok (.iload_n 3, 1) := by decide +kernel
theorem dX10_makeWay_101 : decode cX10_makeWay 101 = .ok (.iload 5, 2) := by decide +kernel
theorem dX10_makeWay_103 : decode cX10_makeWay 103 = .ok (.invokevirtual 203, 3) := by decide +kernel
theorem dX10_makeWay_106 : decode cX10_makeWay 106 = .ok (.ifCond .eq 5, 3) := by decide +kernel
theorem dX10_makeWay_109 : decode cX10_makeWay 109 = .ok (.iload_n 3, 1) := by decide +kernel
theorem dX10_makeWay_110 : decode cX10_makeWay 110 = .ok (.ireturn, 1) := by decide +kernel
theorem dX10_makeWay_111 : decode cX10_makeWay 111 = .ok (.iinc 5 1, 3) := by decide +kernel
theorem dX10_makeWay_114 : decode cX10_makeWay 114 = .ok (.goto (-29), 3) := by decide +kernel
theorem dX10_makeWay_117 : decode cX10_makeWay 117 = .ok (.iinc 3 1, 3) := by decide +kernel
theorem dX10_makeWay_120 : decode cX10_makeWay 120 = .ok (.goto (-69), 3) := by decide +kernel
theorem dX10_makeWay_123 : decode cX10_makeWay 123 = .ok (.aload_n 0, 1) := by decide +kernel
theorem dX10_makeWay_124 : decode cX10_makeWay 124 = .ok (.iconst 3, 1) := by decide +kernel
theorem dX10_makeWay_125 : decode cX10_makeWay 125 = .ok (.invokevirtual 164, 3) := by decide +kernel
theorem dX10_makeWay_128 : decode cX10_makeWay 128 = .ok (.ireturn, 1) := by decide +kernel
theorem dX10_planToCharger_0 : decode cX10_planToCharger 0 = .ok (.aload_n 0, 1) := by decide +kernel
theorem dX10_planToCharger_1 : decode cX10_planToCharger 1 = .ok (.iconst 0, 1) := by decide +kernel
theorem dX10_planToCharger_2 : decode cX10_planToCharger 2 = .ok (.putfield 51, 3) := by decide +kernel
theorem dX10_planToCharger_5 : decode cX10_planToCharger 5 = .ok (.aload_n 0, 1) := by decide +kernel
theorem dX10_planToCharger_6 : decode cX10_planToCharger 6 = .ok (.iload_n 1, 1) := by decide +kernel
theorem dX10_planToCharger_7 : decode cX10_planToCharger 7 = .ok (.invokevirtual 173, 3) := by decide +kernel
theorem dX10_planToCharger_10 : decode cX10_planToCharger 10 = .ok (.ifCond .ne 9, 3) := by decide +kernel
theorem dX10_planToCharger_13 : decode cX10_planToCharger 13 = .ok (.aload_n 0, 1) := by decide +kernel
theorem dX10_planToCharger_14 : decode cX10_planToCharger 14 = .ok (.iconst 1, 1) := by decide +kernel
theorem dX10_planToCharger_15 : decode cX10_planToCharger 15 = .ok (.invokevirtual 164, 3) := by decide +kernel
theorem dX10_planToCharger_18 : decode cX10_planToCharger 18 = .ok (.ireturn, 1) := by decide +kernel
theorem dX10_planToCharger_19 : decode cX10_planToCharger 19 = .ok (.aload_n 0, 1) := by decide +kernel
theorem dX10_planToCharger_20 : decode cX10_planToCharger 20 = .ok (.iload_n 1, 1) := by decide +kernel
theorem dX10_planToCharger_21 : decode cX10_planToCharger 21 = .ok (.invokevirtual 151, 3) := by decide +kernel
theorem dX10_planToCharger_24 : decode cX10_planToCharger 24 = .ok (.ifCond .eq 9, 3) := by decide +kernel
theorem dX10_planToCharger_27 : decode cX10_planToCharger 27 = .ok (.aload_n 0, 1) := by decide +kernel
theorem dX10_planToCharger_28 : decode cX10_planToCharger 28 = .ok (.iconst 2, 1) := by decide +kernel
theorem dX10_planToCharger_29 : decode cX10_planToCharger 29 = .ok (.invokevirtual 164, 3) := by decide +kernel
theorem dX10_planToCharger_32 : decode cX10_planToCharger 32 = .ok (.ireturn, 1) := by decide +kernel
theorem dX10_planToCharger_33 : decode cX10_planToCharger 33 = .ok (.iconst (-1), 1) := by decide +kernel
theorem dX10_planToCharger_34 : decode cX10_planToCharger 34 = .ok (.istore_n 2, 1) := by decide +kernel
theorem dX10_planToCharger_35 : decode cX10_planToCharger 35 = .ok (.iconst 0, 1) := by decide +kernel
theorem dX10_planToCharger_36 : decode cX10_planToCharger 36 = .ok (.istore_n 3, 1) := by decide +kernel
theorem dX10_planToCharger_37 : decode cX10_planToCharger 37 = .ok (.iconst 0, 1) := by decide +kernel
theorem dX10_planToCharger_38 : decode cX10_planToCharger 38 = .ok (.istore 4, 2) := by decide +kernel
theorem dX10_planToCharger_40 : decode cX10_planToCharger 40 = .ok (.iload 4, 2) := by decide +kernel
theorem dX10_planToCharger_42 : decode cX10_planToCharger 42 = .ok (.bipush 40, 2) := by decide +kernel
theorem dX10_planToCharger_44 : decode cX10_planToCharger 44 = .ok (.if_icmp .ge 54, 3) := by decide +kernel
theorem dX10_planToCharger_47 : decode cX10_planToCharger 47 = .ok (.aload_n 0, 1) := by decide +kernel
theorem dX10_planToCharger_48 : decode cX10_planToCharger 48 = .ok (.getfield 7, 3) := by decide +kernel
theorem dX10_planToCharger_51 : decode cX10_planToCharger 51 = .ok (.bipush 8, 2) := by decide +kernel
theorem dX10_planToCharger_53 : decode cX10_planToCharger 53 = .ok (.iload 4, 2) := by decide +kernel
theorem dX10_planToCharger_55 : decode cX10_planToCharger 55 = .ok (.iadd, 1) := by decide +kernel
theorem dX10_planToCharger_56 : decode cX10_planToCharger 56 = .ok (.iaload, 1) := by decide +kernel
theorem dX10_planToCharger_57 : decode cX10_planToCharger 57 = .ok (.iconst 2, 1) := by decide +kernel
theorem dX10_planToCharger_58 : decode cX10_planToCharger 58 = .ok (.if_icmp .ne 34, 3) := by decide +kernel
theorem dX10_planToCharger_61 : decode cX10_planToCharger 61 = .ok (.aload_n 0, 1) := by decide +kernel
theorem dX10_planToCharger_62 : decode cX10_planToCharger 62 = .ok (.iload_n 1, 1) := by decide +kernel
theorem dX10_planToCharger_63 : decode cX10_planToCharger 63 = .ok (.iload 4, 2) := by decide +kernel
theorem dX10_planToCharger_65 : decode cX10_planToCharger 65 = .ok (.invokevirtual 197, 3) := by decide +kernel
theorem dX10_planToCharger_68 : decode cX10_planToCharger 68 = .ok (.ifCond .eq 24, 3) := by decide +kernel
theorem dX10_planToCharger_71 : decode cX10_planToCharger 71 = .ok (.iload_n 2, 1) := by decide +kernel
theorem dX10_planToCharger_72 : decode cX10_planToCharger 72 = .ok (.iconst (-1), 1) := by decide +kernel
theorem dX10_planToCharger_73 : decode cX10_planToCharger 73 = .ok (.if_icmp .eq 11, 3) := by decide +kernel
theorem dX10_planToCharger_76 : decode cX10_planToCharger 76 = .ok (.aload_n 0, 1) := by decide +kernel
theorem dX10_planToCharger_77 : decode cX10_planToCharger 77 = .ok (.getfield 129, 3) := by decide +kernel
theorem dX10_planToCharger_80 : decode cX10_planToCharger 80 = .ok (.iload_n 3, 1) := by decide +kernel
theorem dX10_planToCharger_81 : decode cX10_planToCharger 81 = .ok (.if_icmp .ge 11, 3) := by decide +kernel
theorem dX10_planToCharger_84 : decode cX10_planToCharger 84 = .ok (.iload 4, 2) := by decide +kernel
theorem dX10_planToCharger_86 : decode cX10_planToCharger 86 = .ok (.istore_n 2, 1) := by decide +kernel
theorem dX10_planToCharger_87 : decode cX10_planToCharger 87 = .ok (.aload_n 0, 1) := by decide +kernel
theorem dX10_planToCharger_88 : decode cX10_planToCharger 88 = .ok (.getfield 129, 3) := by decide +kernel
theorem dX10_planToCharger_91 : decode cX10_planToCharger 91 = .ok (.istore_n 3, 1) := by decide +kernel
theorem dX10_planToCharger_92 : decode cX10_planToCharger 92 = .ok (.iinc 4 1, 3) := by decide +kernel
theorem dX10_planToCharger_95 : decode cX10_planToCharger 95 = .ok (.goto (-55), 3) := by decide +kernel
theorem dX10_planToCharger_98 : decode cX10_planToCharger 98 = .ok (.iload_n 2, 1) := by decide +kernel
theorem dX10_planToCharger_99 : decode cX10_planToCharger 99 = .ok (.iconst (-1), 1) := by decide +kernel
theorem dX10_planToCharger_100 : decode cX10_planToCharger 100 = .ok (.if_icmp .ne 9, 3) := by decide +kernel
theorem dX10_planToCharger_103 : decode cX10_planToCharger 103 = .ok (.aload_n 0, 1) := by decide +kernel
theorem dX10_planToCharger_104 : decode cX10_planToCharger 104 = .ok (.iconst 3, 1) := by decide +kernel
theorem dX10_planToCharger_105 : decode cX10_planToCharger 105 = .ok (.invokevirtual 164, 3) := by decide +kernel
theorem dX10_planToCharger_108 : decode cX10_planToCharger 108 = .ok (.ireturn, 1) := by decide +kernel
theorem dX10_planToCharger_109 : decode cX10_planToCharger 109 = .ok (.aload_n 0, 1) := by decide +kernel
theorem dX10_planToCharger_110 : decode cX10_planToCharger 110 = .ok (.iload_n 1, 1) := by decide +kernel
theorem dX10_planToCharger_111 : decode cX10_planToCharger 111 = .ok (.iload_n 2, 1) := by decide +kernel
theorem dX10_planToCharger_112 : decode cX10_planToCharger 112 = .ok (.invokevirtual 206, 3) := by decide +kernel
theorem dX10_planToCharger_115 : decode cX10_planToCharger 115 = .ok (.pop, 1) := by decide +kernel
theorem dX10_planToCharger_116 : decode cX10_planToCharger 116 = .ok (.iload_n 2, 1) := by decide +kernel
theorem dX10_planToCharger_117 : decode cX10_planToCharger 117 = .ok (.ireturn, 1) := by decide +kernel
theorem dX10_addTask_0 : decode cX10_addTask 0 = .ok (.aload_n 0, 1) := by decide +kernel
theorem dX10_addTask_1 : decode cX10_addTask 1 = .ok (.iconst 0, 1) := by decide +kernel
theorem dX10_addTask_2 : decode cX10_addTask 2 = .ok (.putfield 51, 3) := by decide +kernel
theorem dX10_addTask_5 : decode cX10_addTask 5 = .ok (.iload_n 1, 1) := by decide +kernel
theorem dX10_addTask_6 : decode cX10_addTask 6 = .ok (.invokestatic 161, 3) := by decide +kernel
theorem dX10_addTask_9 : decode cX10_addTask 9 = .ok (.ifCond .eq 10, 3) := by decide +kernel
theorem dX10_addTask_12 : decode cX10_addTask 12 = .ok (.iload_n 2, 1) := by decide +kernel
theorem dX10_addTask_13 : decode cX10_addTask 13 = .ok (.invokestatic 161, 3) := by decide +kernel
theorem dX10_addTask_16 : decode cX10_addTask 16 = .ok (.ifCond .ne 9, 3) := by decide +kernel
theorem dX10_addTask_19 : decode cX10_addTask 19 = .ok (.aload_n 0, 1) := by decide +kernel
theorem dX10_addTask_20 : decode cX10_addTask 20 = .ok (.iconst 1, 1) := by decide +kernel
theorem dX10_addTask_21 : decode cX10_addTask 21 = .ok (.invokevirtual 164, 3) := by decide +kernel
theorem dX10_addTask_24 : decode cX10_addTask 24 = .ok (.ireturn, 1) := by decide +kernel
theorem dX10_addTask_25 : decode cX10_addTask 25 = .ok (.iload_n 1, 1) := by decide +kernel
theorem dX10_addTask_26 : decode cX10_addTask 26 = .ok (.iload_n 2, 1) := by decide +kernel
theorem dX10_addTask_27 : decode cX10_addTask 27 = .ok (.if_icmp .eq 32, 3) := by decide +kernel
theorem dX10_addTask_30 : decode cX10_addTask 30 = .ok (.iload_n 3, 1) := by decide +kernel
theorem dX10_addTask_31 : decode cX10_addTask 31 = .ok (.iconst 0, 1) := by decide +kernel
theorem dX10_addTask_32 : decode cX10_addTask 32 = .ok (.sipush 1000, 3) := by decide +kernel
theorem dX10_addTask_35 : decode cX10_addTask 35 = .ok (.invokestatic 54, 3) := by decide +kernel
theorem dX10_addTask_38 : decode cX10_addTask 38 = .ok (.ifCond .eq 21, 3) := by decide +kernel
theorem dX10_addTask_41 : decode cX10_addTask 41 = .ok (.iload 4, 2) := by decide +kernel
theorem dX10_addTask_43 : decode cX10_addTask 43 = .ok (.iconst 0, 1) := by decide +kernel
theorem dX10_addTask_44 : decode cX10_addTask 44 = .ok (.sipush 1000, 3) := by decide +kernel
theorem dX10_addTask_47 : decode cX10_addTask 47 = .ok (.invokestatic 54, 3) := by decide +kernel
theorem dX10_addTask_50 : decode cX10_addTask 50 = .ok (.ifCond .eq 9, 3) := by decide +kernel
theorem dX10_addTask_53 : decode cX10_addTask 53 = .ok (.iload_n 3, 1) := by decide +kernel
theorem dX10_addTask_54 : decode cX10_addTask 54 = .ok (.iload 4, 2) := by decide +kernel
theorem dX10_addTask_56 : decode cX10_addTask 56 = .ok (.if_icmp .le 9, 3) := by decide +kernel
theorem dX10_addTask_59 : decode cX10_addTask 59 = .ok (.aload_n 0, 1) := by decide +kernel
theorem dX10_addTask_60 : decode cX10_addTask 60 = .ok (.iconst 2, 1) := by decide +kernel
theorem dX10_addTask_61 : decode cX10_addTask 61 = .ok (.invokevirtual 164, 3) := by decide +kernel
theorem dX10_addTask_64 : decode cX10_addTask 64 = .ok (.ireturn, 1) := by decide +kernel
theorem dX10_addTask_65 : decode cX10_addTask 65 = .ok (.aload_n 0, 1) := by decide +kernel
theorem dX10_addTask_66 : decode cX10_addTask 66 = .ok (.getfield 7, 3) := by decide +kernel
theorem dX10_addTask_69 : decode cX10_addTask 69 = .ok (.bipush 7, 2) := by decide +kernel
theorem dX10_addTask_71 : decode cX10_addTask 71 = .ok (.iaload, 1) := by decide +kernel
theorem dX10_addTask_72 : decode cX10_addTask 72 = .ok (.bipush 12, 2) := by decide +kernel
theorem dX10_addTask_74 : decode cX10_addTask 74 = .ok (.if_icmp .ne 9, 3) := by decide +kernel
theorem dX10_addTask_77 : decode cX10_addTask 77 = .ok (.aload_n 0, 1) := by decide +kernel
theorem dX10_addTask_78 : decode cX10_addTask 78 = .ok (.iconst 3, 1) := by decide +kernel
theorem dX10_addTask_79 : decode cX10_addTask 79 = .ok (.invokevirtual 164, 3) := by decide +kernel
theorem dX10_addTask_82 : decode cX10_addTask 82 = .ok (.ireturn, 1) := by decide +kernel
theorem dX10_addTask_83 : decode cX10_addTask 83 = .ok (.aload_n 0, 1) := by decide +kernel
theorem dX10_addTask_84 : decode cX10_addTask 84 = .ok (.getfield 7, 3) := by decide +kernel
theorem dX10_addTask_87 : decode cX10_addTask 87 = .ok (.bipush 7, 2) := by decide +kernel
theorem dX10_addTask_89 : decode cX10_addTask 89 = .ok (.iaload, 1) := by decide +kernel
theorem dX10_addTask_90 : decode cX10_addTask 90 = .ok (.istore 5, 2) := by decide +kernel
theorem dX10_addTask_92 : decode cX10_addTask 92 = .ok (.aload_n 0, 1) := by decide +kernel
theorem dX10_addTask_93 : decode cX10_addTask 93 = .ok (.iload 5, 2) := by decide +kernel
theorem dX10_addTask_95 : decode cX10_addTask 95 = .ok (.iconst 0, 1) := by decide +kernel
theorem dX10_addTask_96 : decode cX10_addTask 96 = .ok (.iload_n 1, 1) := by decide +kernel
theorem dX10_addTask_97 : decode cX10_addTask 97 = .ok (.invokevirtual 142, 3) := by decide +kernel
theorem dX10_addTask_100 : decode cX10_addTask 100 = .ok (.aload_n 0, 1) := by decide +kernel
theorem dX10_addTask_101 : decode cX10_addTask 101 = .ok (.iload 5, 2) := by decide +kernel
theorem dX10_addTask_103 : decode cX10_addTask 103 = .ok (.iconst 1, 1) := by decide +kernel
theorem dX10_addTask_104 : decode cX10_addTask 104 = .ok (.iload_n 2, 1) := by decide +kernel
theorem dX10_addTask_105 : decode cX10_addTask 105 = .ok (.invokevirtual 142, 3) := by decide +kernel
theorem dX10_addTask_108 : decode cX10_addTask 108 = .ok (.aload_n 0, 1) := by decide +kernel
theorem dX10_addTask_109 : decode cX10_addTask 109 = .ok (.iload 5, 2) := by decide +kernel
theorem dX10_addTask_111 : decode cX10_addTask 111 = .ok (.iconst 2, 1) := by decide +kernel
theorem dX10_addTask_112 : decode cX10_addTask 112 = .ok (.iload_n 3, 1) := by decide +kernel
theorem dX10_addTask_113 : decode cX10_addTask 113 = .ok (.invokevirtual 142, 3) := by decide +kernel
theorem dX10_addTask_116 : decode cX10_addTask 116 = .ok (.aload_n 0, 1) := by decide +kernel
theorem dX10_addTask_117 : decode cX10_addTask 117 = .ok (.iload 5, 2) := by decide +kernel
theorem dX10_addTask_119 : decode cX10_addTask 119 = .ok (.iconst 3, 1) := by decide +kernel
theorem dX10_addTask_120 : decode cX10_addTask 120 = .ok (.iload 4, 2) := by decide +kernel
theorem dX10_addTask_122 : decode cX10_addTask 122 = .ok (.invokevirtual 142, 3) := by decide +kernel
theorem dX10_addTask_125 : decode cX10_addTask 125 = .ok (.aload_n 0, 1) := by decide +kernel
theorem dX10_addTask_126 : decode cX10_addTask 126 = .ok (.iload 5, 2) := by decide +kernel
theorem dX10_addTask_128 : decode cX10_addTask 128 = .ok (.iconst 4, 1) := by decide +kernel
theorem dX10_addTask_129 : decode cX10_addTask 129 = .ok (.iconst 0, 1) := by decide +kernel
theorem dX10_addTask_130 : decode cX10_addTask 130 = .ok (.invokevirtual 142, 3) := by decide +kernel
theorem dX10_addTask_133 : decode cX10_addTask 133 = .ok (.aload_n 0, 1) := by decide +kernel
theorem dX10_addTask_134 : decode cX10_addTask 134 = .ok (.iload 5, 2) := by decide +kernel
theorem dX10_addTask_136 : decode cX10_addTask 136 = .ok (.iconst 5, 1) := by decide +kernel
theorem dX10_addTask_137 : decode cX10_addTask 137 = .ok (.iconst 0, 1) := by decide +kernel
theorem dX10_addTask_138 : decode cX10_addTask 138 = .ok (.invokevirtual 142, 3) := by decide +kernel
theorem dX10_addTask_141 : decode cX10_addTask 141 = .ok (.aload_n 0, 1) := by decide +kernel
theorem dX10_addTask_142 : decode cX10_addTask 142 = .ok (.iload 5, 2) := by decide +kernel
theorem dX10_addTask_144 : decode cX10_addTask 144 = .ok (.bipush 6, 2) := by decide +kernel
theorem dX10_addTask_146 : decode cX10_addTask 146 = .ok (.iconst (-1), 1) := by decide +kernel
theorem dX10_addTask_147 : decode cX10_addTask 147 = .ok (.invokevirtual 142, 3) := by decide +kernel
theorem dX10_addTask_150 : decode cX10_addTask 150 = .ok (.aload_n 0, 1) := by decide +kernel
theorem dX10_addTask_151 : decode cX10_addTask 151 = .ok (.iload 5, 2) := by decide +kernel
theorem dX10_addTask_153 : decode cX10_addTask 153 = .ok (.bipush 7, 2) := by decide +kernel
theorem dX10_addTask_155 : decode cX10_addTask 155 = .ok (.iconst (-1), 1) := by decide +kernel
theorem dX10_addTask_156 : decode cX10_addTask 156 = .ok (.invokevirtual 142, 3) := by decide +kernel
theorem dX10_addTask_159 : decode cX10_addTask 159 = .ok (.aload_n 0, 1) := by decide +kernel
theorem dX10_addTask_160 : decode cX10_addTask 160 = .ok (.iload 5, 2) := by decide +kernel
theorem dX10_addTask_162 : decode cX10_addTask 162 = .ok (.bipush 8, 2) := by decide +kernel
theorem dX10_addTask_164 : decode cX10_addTask 164 = .ok (.aload_n 0, 1) := by decide +kernel
theorem dX10_addTask_165 : decode cX10_addTask 165 = .ok (.getfield 7, 3) := by decide +kernel
theorem dX10_addTask_168 : decode cX10_addTask 168 = .ok (.iconst 0, 1) := by decide +kernel
theorem dX10_addTask_169 : decode cX10_addTask 169 = .ok (.iaload, 1) := by decide +kernel
theorem dX10_addTask_170 : decode cX10_addTask 170 = .ok (.invokevirtual 142, 3) := by decide +kernel
theorem dX10_addTask_173 : decode cX10_addTask 173 = .ok (.aload_n 0, 1) := by decide +kernel
theorem dX10_addTask_174 : decode cX10_addTask 174 = .ok (.getfield 7, 3) := by decide +kernel
theorem dX10_addTask_177 : decode cX10_addTask 177 = .ok (.bipush 7, 2) := by decide +kernel
theorem dX10_addTask_179 : decode cX10_addTask 179 = .ok (.dup2, 1) := by decide +kernel
theorem dX10_addTask_180 : decode cX10_addTask 180 = .ok (.iaload, 1) := by decide +kernel
theorem dX10_addTask_181 : decode cX10_addTask 181 = .ok (.iconst 1, 1) := by decide +kernel
theorem dX10_addTask_182 : decode cX10_addTask 182 = .ok (.iadd, 1) := by decide +kernel
theorem dX10_addTask_183 : decode cX10_addTask 183 = .ok (.iastore, 1) := by decide +kernel
theorem dX10_addTask_184 : decode cX10_addTask 184 = .ok (.iload 5, 2) := by decide +kernel
theorem dX10_addTask_186 : decode cX10_addTask 186 = .ok (.ireturn, 1) := by decide +kernel
theorem dX10_reason_0 : decode cX10_reason 0 = .ok (.aload_n 0, 1) := by decide +kernel
theorem dX10_reason_1 : decode cX10_reason 1 = .ok (.iload_n 2, 1) := by decide +kernel
theorem dX10_reason_2 : decode cX10_reason 2 = .ok (.invokevirtual 151, 3) := by decide +kernel
theorem dX10_reason_5 : decode cX10_reason 5 = .ok (.ifCond .eq 5, 3) := by decide +kernel
theorem dX10_reason_8 : decode cX10_reason 8 = .ok (.iconst 1, 1) := by decide +kernel
theorem dX10_reason_9 : decode cX10_reason 9 = .ok (.ireturn, 1) := by decide +kernel
theorem dX10_reason_10 : decode cX10_reason 10 = .ok (.aload_n 0, 1) := by decide +kernel
theorem dX10_reason_11 : decode cX10_reason 11 = .ok (.invokevirtual 132, 3) := by decide +kernel
theorem dX10_reason_14 : decode cX10_reason 14 = .ok (.aload_n 0, 1) := by decide +kernel
theorem dX10_reason_15 : decode cX10_reason 15 = .ok (.invokevirtual 135, 3) := by decide +kernel
theorem dX10_reason_18 : decode cX10_reason 18 = .ok (.aload_n 0, 1) := by decide +kernel
theorem dX10_reason_19 : decode cX10_reason 19 = .ok (.iload_n 1, 1) := by decide +kernel
theorem dX10_reason_20 : decode cX10_reason 20 = .ok (.iconst 0, 1) := by decide +kernel
theorem dX10_reason_21 : decode cX10_reason 21 = .ok (.invokevirtual 209, 3) := by decide +kernel
theorem dX10_reason_24 : decode cX10_reason 24 = .ok (.istore_n 3, 1) := by decide +kernel
theorem dX10_reason_25 : decode cX10_reason 25 = .ok (.aload_n 0, 1) := by decide +kernel
theorem dX10_reason_26 : decode cX10_reason 26 = .ok (.iload_n 2, 1) := by decide +kernel
theorem dX10_reason_27 : decode cX10_reason 27 = .ok (.aload_n 0, 1) := by decide +kernel
theorem dX10_reason_28 : decode cX10_reason 28 = .ok (.iload_n 2, 1) := by decide +kernel
theorem dX10_reason_29 : decode cX10_reason 29 = .ok (.iconst 0, 1) := by decide +kernel
theorem dX10_reason_30 : decode cX10_reason 30 = .ok (.invokevirtual 58, 3) := by decide +kernel
theorem dX10_reason_33 : decode cX10_reason 33 = .ok (.iconst 0, 1) := by decide +kernel
theorem dX10_reason_34 : decode cX10_reason 34 = .ok (.iload_n 3, 1) := by decide +kernel
theorem dX10_reason_35 : decode cX10_reason 35 = .ok (.iconst 0, 1) := by decide +kernel
theorem dX10_reason_36 : decode cX10_reason 36 = .ok (.invokevirtual 138, 3) := by decide +kernel
theorem dX10_reason_39 : decode cX10_reason 39 = .ok (.ifCond .ne 5, 3) := by decide +kernel
theorem dX10_reason_42 : decode cX10_reason 42 = .ok (.iconst 2, 1) := by decide +kernel
theorem dX10_reason_43 : decode cX10_reason 43 = .ok (.ireturn, 1) := by decide +kernel
theorem dX10_reason_44 : decode cX10_reason 44 = .ok (.aload_n 0, 1) := by decide +kernel
theorem dX10_reason_45 : decode cX10_reason 45 = .ok (.getfield 129, 3) := by decide +kernel
theorem dX10_reason_48 : decode cX10_reason 48 = .ok (.istore 4, 2) := by decide +kernel
theorem dX10_reason_50 : decode cX10_reason 50 = .ok (.iload 4, 2) := by decide +kernel
theorem dX10_reason_52 : decode cX10_reason 52 = .ok (.aload_n 0, 1) := by decide +kernel
theorem dX10_reason_53 : decode cX10_reason 53 = .ok (.iload_n 1, 1) := by decide +kernel
theorem dX10_reason_54 : decode cX10_reason 54 = .ok (.iconst 2, 1) := by decide +kernel
theorem dX10_reason_55 : decode cX10_reason 55 = .ok (.invokevirtual 209, 3) := by decide +kernel
theorem dX10_reason_58 : decode cX10_reason 58 = .ok (.aload_n 0, 1) := by decide +kernel
theorem dX10_reason_59 : decode cX10_reason 59 = .ok (.getfield 7, 3) := by decide +kernel
theorem dX10_reason_62 : decode cX10_reason 62 = .ok (.iconst 0, 1) := by decide +kernel
theorem dX10_reason_63 : decode cX10_reason 63 = .ok (.iaload, 1) := by decide +kernel
theorem dX10_reason_64 : decode cX10_reason 64 = .ok (.isub, 1) := by decide +kernel
theorem dX10_reason_65 : decode cX10_reason 65 = .ok (.invokestatic 212, 3) := by decide +kernel
theorem dX10_reason_68 : decode cX10_reason 68 = .ok (.istore 5, 2) := by decide +kernel
theorem dX10_reason_70 : decode cX10_reason 70 = .ok (.iload 5, 2) := by decide +kernel
theorem dX10_reason_72 : decode cX10_reason 72 = .ok (.bipush 30, 2) := by decide +kernel
theorem dX10_reason_74 : decode cX10_reason 74 = .ok (.if_icmp .gt 16, 3) := by decide +kernel
theorem dX10_reason_77 : decode cX10_reason 77 = .ok (.aload_n 0, 1) := by decide +kernel
theorem dX10_reason_78 : decode cX10_reason 78 = .ok (.iload_n 2, 1) := by decide +kernel
theorem dX10_reason_79 : decode cX10_reason 79 = .ok (.iload_n 3, 1) := by decide +kernel
theorem dX10_reason_80 : decode cX10_reason 80 = .ok (.iload 4, 2) := by decide +kernel
theorem dX10_reason_82 : decode cX10_reason 82 = .ok (.iload 5, 2) := by decide +kernel
theorem dX10_reason_84 : decode cX10_reason 84 = .ok (.invokevirtual 112, 3) := by decide +kernel
theorem dX10_reason_87 : decode cX10_reason 87 = .ok (.ifCond .ne 5, 3) := by decide +kernel
theorem dX10_reason_90 : decode cX10_reason 90 = .ok (.iconst 3, 1) := by decide +kernel
theorem dX10_reason_91 : decode cX10_reason 91 = .ok (.ireturn, 1) := by decide +kernel
theorem dX10_reason_92 : decode cX10_reason 92 = .ok (.iload 4, 2) := by decide +kernel
theorem dX10_reason_94 : decode cX10_reason 94 = .ok (.istore 6, 2) := by decide +kernel
theorem dX10_reason_96 : decode cX10_reason 96 = .ok (.iload 6, 2) := by decide +kernel
theorem dX10_reason_98 : decode cX10_reason 98 = .ok (.iload 5, 2) := by decide +kernel
theorem dX10_reason_100 : decode cX10_reason 100 = .ok (.if_icmp .ge 29, 3) := by decide +kernel
theorem dX10_reason_103 : decode cX10_reason 103 = .ok (.aload_n 0, 1) := by decide +kernel
theorem dX10_reason_104 : decode cX10_reason 104 = .ok (.getfield 45, 3) := by decide +kernel
theorem dX10_reason_107 : decode cX10_reason 107 = .ok (.aload_n 0, 1) := by decide +kernel
theorem dX10_reason_108 : decode cX10_reason 108 = .ok (.getfield 126, 3) := by decide +kernel
theorem dX10_reason_111 : decode cX10_reason 111 = .ok (.iconst 0, 1) := by decide +kernel
theorem dX10_reason_112 : decode cX10_reason 112 = .ok (.iastore, 1) := by decide +kernel
theorem dX10_reason_113 : decode cX10_reason 113 = .ok (.aload_n 0, 1) := by decide +kernel
theorem dX10_reason_114 : decode cX10_reason 114 = .ok (.dup, 1) := by decide +kernel
theorem dX10_reason_115 : decode cX10_reason 115 = .ok (.getfield 126, 3) := by decide +kernel
theorem dX10_reason_118 : decode cX10_reason 118 = .ok (.iconst 1, 1) := by decide +kernel
theorem dX10_reason_119 : decode cX10_reason 119 = .ok (.iadd, 1) := by decide +kernel
theorem dX10_reason_120 : decode cX10_reason 120 = .ok (.putfield 126, 3) := by decide +kernel
theorem dX10_reason_123 : decode cX10_reason 123 = .ok (.iinc 6 1, 3) := by decide +kernel
theorem dX10_reason_126 : decode cX10_reason 126 = .ok (.goto (-30), 3) := by decide +kernel
theorem dX10_reason_129 : decode cX10_reason 129 = .ok (.aload_n 0, 1) := by decide +kernel
theorem dX10_reason_130 : decode cX10_reason 130 = .ok (.iload_n 2, 1) := by decide +kernel
theorem dX10_reason_131 : decode cX10_reason 131 = .ok (.iload_n 3, 1) := by decide +kernel
theorem dX10_reason_132 : decode cX10_reason 132 = .ok (.iload 5, 2) := by decide +kernel
theorem dX10_reason_134 : decode cX10_reason 134 = .ok (.aload_n 0, 1) := by decide +kernel
theorem dX10_reason_135 : decode cX10_reason 135 = .ok (.iload_n 1, 1) := by decide +kernel
theorem dX10_reason_136 : decode cX10_reason 136 = .ok (.iconst 1, 1) := by decide +kernel
theorem dX10_reason_137 : decode cX10_reason 137 = .ok (.invokevirtual 209, 3) := by decide +kernel
theorem dX10_reason_140 : decode cX10_reason 140 = .ok (.iconst 1, 1) := by decide +kernel
theorem dX10_reason_141 : decode cX10_reason 141 = .ok (.invokevirtual 138, 3) := by decide +kernel
theorem dX10_reason_144 : decode cX10_reason 144 = .ok (.ifCond .ne 5, 3) := by decide +kernel
theorem dX10_reason_147 : decode cX10_reason 147 = .ok (.iconst 4, 1) := by decide +kernel
theorem dX10_reason_148 : decode cX10_reason 148 = .ok (.ireturn, 1) := by decide +kernel
theorem dX10_reason_149 : decode cX10_reason 149 = .ok (.aload_n 0, 1) := by decide +kernel
theorem dX10_reason_150 : decode cX10_reason 150 = .ok (.getfield 7, 3) := by decide +kernel
theorem dX10_reason_153 : decode cX10_reason 153 = .ok (.iconst 0, 1) := by decide +kernel
theorem dX10_reason_154 : decode cX10_reason 154 = .ok (.iaload, 1) := by decide +kernel
theorem dX10_reason_155 : decode cX10_reason 155 = .ok (.aload_n 0, 1) := by decide +kernel
theorem dX10_reason_156 : decode cX10_reason 156 = .ok (.getfield 129, 3) := by decide +kernel
theorem dX10_reason_159 : decode cX10_reason 159 = .ok (.iadd, 1) := by decide +kernel
theorem dX10_reason_160 : decode cX10_reason 160 = .ok (.aload_n 0, 1) := by decide +kernel
theorem dX10_reason_161 : decode cX10_reason 161 = .ok (.iload_n 1, 1) := by decide +kernel
theorem dX10_reason_162 : decode cX10_reason 162 = .ok (.iconst 3, 1) := by decide +kernel
theorem dX10_reason_163 : decode cX10_reason 163 = .ok (.invokevirtual 209, 3) := by decide +kernel
theorem dX10_reason_166 : decode cX10_reason 166 = .ok (.if_icmp .le 5, 3) := by decide +kernel
theorem dX10_reason_169 : decode cX10_reason 169 = .ok (.iconst 5, 1) := by decide +kernel
theorem dX10_reason_170 : decode cX10_reason 170 = .ok (.ireturn, 1) := by decide +kernel
theorem dX10_reason_171 : decode cX10_reason 171 = .ok (.aload_n 0, 1) := by decide +kernel
theorem dX10_reason_172 : decode cX10_reason 172 = .ok (.getfield 119, 3) := by decide +kernel
theorem dX10_reason_175 : decode cX10_reason 175 = .ok (.aload_n 0, 1) := by decide +kernel
theorem dX10_reason_176 : decode cX10_reason 176 = .ok (.iload_n 2, 1) := by decide +kernel
theorem dX10_reason_177 : decode cX10_reason 177 = .ok (.iconst 1, 1) := by decide +kernel
theorem dX10_reason_178 : decode cX10_reason 178 = .ok (.invokevirtual 58, 3) := by decide +kernel
theorem dX10_reason_181 : decode cX10_reason 181 = .ok (.if_icmp .le 8, 3) := by decide +kernel
theorem dX10_reason_184 : decode cX10_reason 184 = .ok (.bipush 6, 2) := by decide +kernel
theorem dX10_reason_186 : decode cX10_reason 186 = .ok (.goto 4, 3) := by decide +kernel
theorem dX10_reason_189 : decode cX10_reason 189 = .ok (.iconst 0, 1) := by decide +kernel
theorem dX10_reason_190 : decode cX10_reason 190 = .ok (.ireturn, 1) := by decide +kernel
theorem dX10_isToServe_0 : decode cX10_isToServe 0 = .ok (.aload_n 0, 1) := by decide +kernel
theorem dX10_isToServe_1 : decode cX10_isToServe 1 = .ok (.iload_n 1, 1) := by decide +kernel
theorem dX10_isToServe_2 : decode cX10_isToServe 2 = .ok (.iconst 4, 1) := by decide +kernel
theorem dX10_isToServe_3 : decode cX10_isToServe 3 = .ok (.invokevirtual 209, 3) := by decide +kernel
theorem dX10_isToServe_6 : decode cX10_isToServe 6 = .ok (.ifCond .eq 13, 3) := by decide +kernel
theorem dX10_isToServe_9 : decode cX10_isToServe 9 = .ok (.aload_n 0, 1) := by decide +kernel
theorem dX10_isToServe_10 : decode cX10_isToServe 10 = .ok (.iload_n 1, 1) := by decide +kernel
theorem dX10_isToServe_11 : decode cX10_isToServe 11 = .ok (.iconst 4, 1) := by decide +kernel
theorem dX10_isToServe_12 : decode cX10_isToServe 12 = .ok (.invokevirtual 209, 3) := by decide +kernel
theorem dX10_isToServe_15 : decode cX10_isToServe 15 = .ok (.iconst 3, 1) := by decide +kernel
theorem dX10_isToServe_16 : decode cX10_isToServe 16 = .ok (.if_icmp .ne 7, 3) := by decide +kernel
theorem dX10_isToServe_19 : decode cX10_isToServe 19 = .ok (.iconst 1, 1) := by decide +kernel
theorem dX10_isToServe_20 : decode cX10_isToServe 20 = .ok (.goto 4, 3) := by decide +kernel
theorem dX10_isToServe_23 : decode cX10_isToServe 23 = .ok (.iconst 0, 1) := by decide +kernel
theorem dX10_isToServe_24 : decode cX10_isToServe 24 = .ok (.ireturn, 1) := by decide +kernel
theorem dX10_serve_0 : decode cX10_serve 0 = .ok (.aload_n 0, 1) := by decide +kernel
theorem dX10_serve_1 : decode cX10_serve 1 = .ok (.iconst 0, 1) := by decide +kernel
theorem dX10_serve_2 : decode cX10_serve 2 = .ok (.putfield 51, 3) := by decide +kernel
theorem dX10_serve_5 : decode cX10_serve 5 = .ok (.aload_n 0, 1) := by decide +kernel
theorem dX10_serve_6 : decode cX10_serve 6 = .ok (.iload_n 1, 1) := by decide +kernel
theorem dX10_serve_7 : decode cX10_serve 7 = .ok (.invokevirtual 215, 3) := by decide +kernel
theorem dX10_serve_10 : decode cX10_serve 10 = .ok (.ifCond .eq 11, 3) := by decide +kernel
theorem dX10_serve_13 : decode cX10_serve 13 = .ok (.aload_n 0, 1) := by decide +kernel
theorem dX10_serve_14 : decode cX10_serve 14 = .ok (.iload_n 2, 1) := by decide +kernel
theorem dX10_serve_15 : decode cX10_serve 15 = .ok (.invokevirtual 173, 3) := by decide +kernel
theorem dX10_serve_18 : decode cX10_serve 18 = .ok (.ifCond .ne 9, 3) := by decide +kernel
theorem dX10_serve_21 : decode cX10_serve 21 = .ok (.aload_n 0, 1) := by decide +kernel
theorem dX10_serve_22 : decode cX10_serve 22 = .ok (.iconst 1, 1) := by decide +kernel
theorem dX10_serve_23 : decode cX10_serve 23 = .ok (.invokevirtual 164, 3) := by decide +kernel
theorem dX10_serve_26 : decode cX10_serve 26 = .ok (.ireturn, 1) := by decide +kernel
theorem dX10_serve_27 : decode cX10_serve 27 = .ok (.aload_n 0, 1) := by decide +kernel
theorem dX10_serve_28 : decode cX10_serve 28 = .ok (.iload_n 1, 1) := by decide +kernel
theorem dX10_serve_29 : decode cX10_serve 29 = .ok (.invokevirtual 218, 3) := by decide +kernel
theorem dX10_serve_32 : decode cX10_serve 32 = .ok (.ifCond .ne 9, 3) := by decide +kernel
theorem dX10_serve_35 : decode cX10_serve 35 = .ok (.aload_n 0, 1) := by decide +kernel
theorem dX10_serve_36 : decode cX10_serve 36 = .ok (.iconst 2, 1) := by decide +kernel
theorem dX10_serve_37 : decode cX10_serve 37 = .ok (.invokevirtual 164, 3) := by decide +kernel
theorem dX10_serve_40 : decode cX10_serve 40 = .ok (.ireturn, 1) := by decide +kernel
theorem dX10_serve_41 : decode cX10_serve 41 = .ok (.aload_n 0, 1) := by decide +kernel
theorem dX10_serve_42 : decode cX10_serve 42 = .ok (.iload_n 1, 1) := by decide +kernel
theorem dX10_serve_43 : decode cX10_serve 43 = .ok (.iload_n 2, 1) := by decide +kernel
theorem dX10_serve_44 : decode cX10_serve 44 = .ok (.invokevirtual 221, 3) := by decide +kernel
theorem dX10_serve_47 : decode cX10_serve 47 = .ok (.istore_n 3, 1) := by decide +kernel
theorem dX10_serve_48 : decode cX10_serve 48 = .ok (.iload_n 3, 1) := by decide +kernel
theorem dX10_serve_49 : decode cX10_serve 49 = .ok (.ifCond .ne 12, 3) := by decide +kernel
theorem dX10_serve_52 : decode cX10_serve 52 = .ok (.aload_n 0, 1) := by decide +kernel
theorem dX10_serve_53 : decode cX10_serve 53 = .ok (.iload_n 1, 1) := by decide +kernel
theorem dX10_serve_54 : decode cX10_serve 54 = .ok (.iload_n 2, 1) := by decide +kernel
theorem dX10_serve_55 : decode cX10_serve 55 = .ok (.invokevirtual 224, 3) := by decide +kernel
theorem dX10_serve_58 : decode cX10_serve 58 = .ok (.goto 10, 3) := by decide +kernel
theorem dX10_serve_61 : decode cX10_serve 61 = .ok (.aload_n 0, 1) := by decide +kernel
theorem dX10_serve_62 : decode cX10_serve 62 = .ok (.iload_n 1, 1) := by decide +kernel
theorem dX10_serve_63 : decode cX10_serve 63 = .ok (.iconst 4, 1) := by decide +kernel
theorem dX10_serve_64 : decode cX10_serve 64 = .ok (.iconst 3, 1) := by decide +kernel
theorem dX10_serve_65 : decode cX10_serve 65 = .ok (.invokevirtual 142, 3) := by decide +kernel
theorem dX10_serve_68 : decode cX10_serve 68 = .ok (.aload_n 0, 1) := by decide +kernel
theorem dX10_serve_69 : decode cX10_serve 69 = .ok (.iload_n 1, 1) := by decide +kernel
theorem dX10_serve_70 : decode cX10_serve 70 = .ok (.iconst 5, 1) := by decide +kernel
theorem dX10_serve_71 : decode cX10_serve 71 = .ok (.iload_n 3, 1) := by decide +kernel
theorem dX10_serve_72 : decode cX10_serve 72 = .ok (.invokevirtual 142, 3) := by decide +kernel
theorem dX10_serve_75 : decode cX10_serve 75 = .ok (.iload_n 3, 1) := by decide +kernel
theorem dX10_serve_76 : decode cX10_serve 76 = .ok (.ireturn, 1) := by decide +kernel
theorem dX10_serves_0 : decode cX10_serves 0 = .ok (.aload_n 0, 1) := by decide +kernel
theorem dX10_serves_1 : decode cX10_serves 1 = .ok (.iload_n 2, 1) := by decide +kernel
theorem dX10_serves_2 : decode cX10_serves 2 = .ok (.invokevirtual 194, 3) := by decide +kernel
theorem dX10_serves_5 : decode cX10_serves 5 = .ok (.aload_n 0, 1) := by decide +kernel
theorem dX10_serves_6 : decode cX10_serves 6 = .ok (.iload_n 2, 1) := by decide +kernel
theorem dX10_serves_7 : decode cX10_serves 7 = .ok (.iconst 4, 1) := by decide +kernel
theorem dX10_serves_8 : decode cX10_serves 8 = .ok (.iload_n 1, 1) := by decide +kernel
theorem dX10_serves_9 : decode cX10_serves 9 = .ok (.invokevirtual 145, 3) := by decide +kernel
theorem dX10_serves_12 : decode cX10_serves 12 = .ok (.aload_n 0, 1) := by decide +kernel
theorem dX10_serves_13 : decode cX10_serves 13 = .ok (.iload_n 1, 1) := by decide +kernel
theorem dX10_serves_14 : decode cX10_serves 14 = .ok (.iconst 4, 1) := by decide +kernel
theorem dX10_serves_15 : decode cX10_serves 15 = .ok (.iconst 1, 1) := by decide +kernel
theorem dX10_serves_16 : decode cX10_serves 16 = .ok (.invokevirtual 142, 3) := by decide +kernel
theorem dX10_serves_19 : decode cX10_serves 19 = .ok (.aload_n 0, 1) := by decide +kernel
theorem dX10_serves_20 : decode cX10_serves 20 = .ok (.iload_n 1, 1) := by decide +kernel
theorem dX10_serves_21 : decode cX10_serves 21 = .ok (.iconst 5, 1) := by decide +kernel
theorem dX10_serves_22 : decode cX10_serves 22 = .ok (.iconst 0, 1) := by decide +kernel
theorem dX10_serves_23 : decode cX10_serves 23 = .ok (.invokevirtual 142, 3) := by decide +kernel
theorem dX10_serves_26 : decode cX10_serves 26 = .ok (.aload_n 0, 1) := by decide +kernel
theorem dX10_serves_27 : decode cX10_serves 27 = .ok (.iload_n 1, 1) := by decide +kernel
theorem dX10_serves_28 : decode cX10_serves 28 = .ok (.bipush 6, 2) := by decide +kernel
theorem dX10_serves_30 : decode cX10_serves 30 = .ok (.iload_n 2, 1) := by decide +kernel
theorem dX10_serves_31 : decode cX10_serves 31 = .ok (.invokevirtual 142, 3) := by decide +kernel
theorem dX10_serves_34 : decode cX10_serves 34 = .ok (.return_, 1) := by decide +kernel
theorem dX10_bestOf_0 : decode cX10_bestOf 0 = .ok (.iconst (-1), 1) := by decide +kernel
theorem dX10_bestOf_1 : decode cX10_bestOf 1 = .ok (.istore_n 3, 1) := by decide +kernel
theorem dX10_bestOf_2 : decode cX10_bestOf 2 = .ok (.iconst 0, 1) := by decide +kernel
theorem dX10_bestOf_3 : decode cX10_bestOf 3 = .ok (.istore 4, 2) := by decide +kernel
theorem dX10_bestOf_5 : decode cX10_bestOf 5 = .ok (.iconst 0, 1) := by decide +kernel
theorem dX10_bestOf_6 : decode cX10_bestOf 6 = .ok (.istore 5, 2) := by decide +kernel
theorem dX10_bestOf_8 : decode cX10_bestOf 8 = .ok (.iload 5, 2) := by decide +kernel
theorem dX10_bestOf_10 : decode cX10_bestOf 10 = .ok (.aload_n 0, 1) := by decide +kernel
theorem dX10_bestOf_11 : decode cX10_bestOf 11 = .ok (.getfield 7, 3) := by decide +kernel
theorem dX10_bestOf_14 : decode cX10_bestOf 14 = .ok (.bipush 6, 2) := by decide +kernel
theorem dX10_bestOf_16 : decode cX10_bestOf 16 = .ok (.iaload, 1) := by decide +kernel
theorem dX10_bestOf_17 : decode cX10_bestOf 17 = .ok (.if_icmp .ge 67, 3) := by decide +kernel
theorem dX10_bestOf_20 : decode cX10_bestOf 20 = .ok (.iload_n 2, 1) := by decide +kernel
theorem dX10_bestOf_21 : decode cX10_bestOf 21 = .ok (.ifCond .eq 12, 3) := by decide +kernel
theorem dX10_bestOf_24 : decode cX10_bestOf 24 = .ok (.aload_n 0, 1) := by decide +kernel
theorem dX10_bestOf_25 : decode cX10_bestOf 25 = .ok (.iload 5, 2) := by decide +kernel
theorem dX10_bestOf_27 : decode cX10_bestOf 27 = .ok (.invokevirtual 200, 3) := by decide +kernel
theorem dX10_bestOf_30 : decode cX10_bestOf 30 = .ok (.ifCond .eq 7, 3) := by decide +kernel
theorem dX10_bestOf_33 : decode cX10_bestOf 33 = .ok (.iconst 1, 1) := by decide +kernel
theorem dX10_bestOf_34 : decode cX10_bestOf 34 = .ok (.goto 4, 3) := by decide +kernel
theorem dX10_bestOf_37 : decode cX10_bestOf 37 = .ok (.iconst 0, 1) := by decide +kernel
theorem dX10_bestOf_38 : decode cX10_bestOf 38 = .ok (.istore 6, 2) := by decide +kernel
theorem dX10_bestOf_40 : decode cX10_bestOf 40 = .ok (.iload 6, 2) := by decide +kernel
theorem dX10_bestOf_42 : decode cX10_bestOf 42 = .ok (.ifCond .eq 36, 3) := by decide +kernel
theorem dX10_bestOf_45 : decode cX10_bestOf 45 = .ok (.aload_n 0, 1) := by decide +kernel
theorem dX10_bestOf_46 : decode cX10_bestOf 46 = .ok (.iload_n 1, 1) := by decide +kernel
theorem dX10_bestOf_47 : decode cX10_bestOf 47 = .ok (.iload 5, 2) := by decide +kernel
theorem dX10_bestOf_49 : decode cX10_bestOf 49 = .ok (.invokevirtual 221, 3) := by decide +kernel
theorem dX10_bestOf_52 : decode cX10_bestOf 52 = .ok (.ifCond .ne 26, 3) := by decide +kernel
theorem dX10_bestOf_55 : decode cX10_bestOf 55 = .ok (.iload_n 3, 1) := by decide +kernel
theorem dX10_bestOf_56 : decode cX10_bestOf 56 = .ok (.iconst (-1), 1) := by decide +kernel
theorem dX10_bestOf_57 : decode cX10_bestOf 57 = .ok (.if_icmp .eq 12, 3) := by decide +kernel
theorem dX10_bestOf_60 : decode cX10_bestOf 60 = .ok (.aload_n 0, 1) := by decide +kernel
theorem dX10_bestOf_61 : decode cX10_bestOf 61 = .ok (.getfield 129, 3) := by decide +kernel
theorem dX10_bestOf_64 : decode cX10_bestOf 64 = .ok (.iload 4, 2) := by decide +kernel
theorem dX10_bestOf_66 : decode cX10_bestOf 66 = .ok (.if_icmp .ge 12, 3) := by decide +kernel
theorem dX10_bestOf_69 : decode cX10_bestOf 69 = .ok (.iload 5, 2) := by decide +kernel
theorem dX10_bestOf_71 : decode cX10_bestOf 71 = .ok (.istore_n 3, 1) := by decide +kernel
theorem dX10_bestOf_72 : decode cX10_bestOf 72 = .ok (.aload_n 0, 1) := by decide +kernel
theorem dX10_bestOf_73 : decode cX10_bestOf 73 = .ok (.getfield 129, 3) := by decide +kernel
theorem dX10_bestOf_76 : decode cX10_bestOf 76 = .ok (.istore 4, 2) := by decide +kernel
theorem dX10_bestOf_78 : decode cX10_bestOf 78 = .ok (.iinc 5 1, 3) := by decide +kernel
theorem dX10_bestOf_81 : decode cX10_bestOf 81 = .ok (.goto (-73), 3) := by decide +kernel
theorem dX10_bestOf_84 : decode cX10_bestOf 84 = .ok (.iload_n 3, 1) := by decide +kernel
theorem dX10_bestOf_85 : decode cX10_bestOf 85 = .ok (.ireturn, 1) := by decide +kernel
theorem dX10_bestRobot_0 : decode cX10_bestRobot 0 = .ok (.aload_n 0, 1) := by decide +kernel
theorem dX10_bestRobot_1 : decode cX10_bestRobot 1 = .ok (.iconst 0, 1) := by decide +kernel
theorem dX10_bestRobot_2 : decode cX10_bestRobot 2 = .ok (.putfield 51, 3) := by decide +kernel
theorem dX10_bestRobot_5 : decode cX10_bestRobot 5 = .ok (.aload_n 0, 1) := by decide +kernel
theorem dX10_bestRobot_6 : decode cX10_bestRobot 6 = .ok (.iload_n 1, 1) := by decide +kernel
theorem dX10_bestRobot_7 : decode cX10_bestRobot 7 = .ok (.invokevirtual 215, 3) := by decide +kernel
theorem dX10_bestRobot_10 : decode cX10_bestRobot 10 = .ok (.ifCond .ne 9, 3) := by decide +kernel
theorem dX10_bestRobot_13 : decode cX10_bestRobot 13 = .ok (.aload_n 0, 1) := by decide +kernel
theorem dX10_bestRobot_14 : decode cX10_bestRobot 14 = .ok (.iconst 1, 1) := by decide +kernel
theorem dX10_bestRobot_15 : decode cX10_bestRobot 15 = .ok (.invokevirtual 164, 3) := by decide +kernel
theorem dX10_bestRobot_18 : decode cX10_bestRobot 18 = .ok (.ireturn, 1) := by decide +kernel
theorem dX10_bestRobot_19 : decode cX10_bestRobot 19 = .ok (.aload_n 0, 1) := by decide +kernel
theorem dX10_bestRobot_20 : decode cX10_bestRobot 20 = .ok (.iload_n 1, 1) := by decide +kernel
theorem dX10_bestRobot_21 : decode cX10_bestRobot 21 = .ok (.invokevirtual 218, 3) := by decide +kernel
theorem dX10_bestRobot_24 : decode cX10_bestRobot 24 = .ok (.ifCond .ne 9, 3) := by decide +kernel
theorem dX10_bestRobot_27 : decode cX10_bestRobot 27 = .ok (.aload_n 0, 1) := by decide +kernel
theorem dX10_bestRobot_28 : decode cX10_bestRobot 28 = .ok (.iconst 2, 1) := by decide +kernel
theorem dX10_bestRobot_29 : decode cX10_bestRobot 29 = .ok (.invokevirtual 164, 3) := by decide +kernel
theorem dX10_bestRobot_32 : decode cX10_bestRobot 32 = .ok (.ireturn, 1) := by decide +kernel
theorem dX10_bestRobot_33 : decode cX10_bestRobot 33 = .ok (.aload_n 0, 1) := by decide +kernel
theorem dX10_bestRobot_34 : decode cX10_bestRobot 34 = .ok (.iload_n 1, 1) := by decide +kernel
theorem dX10_bestRobot_35 : decode cX10_bestRobot 35 = .ok (.iconst 0, 1) := by decide +kernel
theorem dX10_bestRobot_36 : decode cX10_bestRobot 36 = .ok (.invokevirtual 228, 3) := by decide +kernel
theorem dX10_bestRobot_39 : decode cX10_bestRobot 39 = .ok (.istore_n 2, 1) := by decide +kernel
theorem dX10_bestRobot_40 : decode cX10_bestRobot 40 = .ok (.iload_n 2, 1) := by decide +kernel
theorem dX10_bestRobot_41 : decode cX10_bestRobot 41 = .ok (.iconst (-1), 1) := by decide +kernel
theorem dX10_bestRobot_42 : decode cX10_bestRobot 42 = .ok (.if_icmp .ne 11, 3) := by decide +kernel
theorem dX10_bestRobot_45 : decode cX10_bestRobot 45 = .ok (.aload_n 0, 1) := by decide +kernel
theorem dX10_bestRobot_46 : decode cX10_bestRobot 46 = .ok (.iconst 3, 1) := by decide +kernel
theorem dX10_bestRobot_47 : decode cX10_bestRobot 47 = .ok (.invokevirtual 164, 3) := by decide +kernel
theorem dX10_bestRobot_50 : decode cX10_bestRobot 50 = .ok (.goto 4, 3) := by decide +kernel
theorem dX10_bestRobot_53 : decode cX10_bestRobot 53 = .ok (.iload_n 2, 1) := by decide +kernel
theorem dX10_bestRobot_54 : decode cX10_bestRobot 54 = .ok (.ireturn, 1) := by decide +kernel
theorem dX10_task_0 : decode cX10_task 0 = .ok (.aload_n 0, 1) := by decide +kernel
theorem dX10_task_1 : decode cX10_task 1 = .ok (.iconst 0, 1) := by decide +kernel
theorem dX10_task_2 : decode cX10_task 2 = .ok (.putfield 51, 3) := by decide +kernel
theorem dX10_task_5 : decode cX10_task 5 = .ok (.aload_n 0, 1) := by decide +kernel
theorem dX10_task_6 : decode cX10_task 6 = .ok (.iload_n 1, 1) := by decide +kernel
theorem dX10_task_7 : decode cX10_task 7 = .ok (.invokevirtual 215, 3) := by decide +kernel
theorem dX10_task_10 : decode cX10_task 10 = .ok (.ifCond .ne 9, 3) := by decide +kernel
theorem dX10_task_13 : decode cX10_task 13 = .ok (.aload_n 0, 1) := by decide +kernel
theorem dX10_task_14 : decode cX10_task 14 = .ok (.iconst 1, 1) := by decide +kernel
theorem dX10_task_15 : decode cX10_task 15 = .ok (.invokevirtual 164, 3) := by decide +kernel
theorem dX10_task_18 : decode cX10_task 18 = .ok (.ireturn, 1) := by decide +kernel
theorem dX10_task_19 : decode cX10_task 19 = .ok (.iload_n 2, 1) := by decide +kernel
theorem dX10_task_20 : decode cX10_task 20 = .ok (.tableswitch 120 0 7 #[48, 55, 76, 84, 92, 99, 106, 113], 48) := by decide +kernel
theorem dX10_task_68 : decode cX10_task 68 = .ok (.aload_n 0, 1) := by decide +kernel
theorem dX10_task_69 : decode cX10_task 69 = .ok (.iload_n 1, 1) := by decide +kernel
theorem dX10_task_70 : decode cX10_task 70 = .ok (.iconst 4, 1) := by decide +kernel
theorem dX10_task_71 : decode cX10_task 71 = .ok (.invokevirtual 209, 3) := by decide +kernel
theorem dX10_task_74 : decode cX10_task 74 = .ok (.ireturn, 1) := by decide +kernel
theorem dX10_task_75 : decode cX10_task 75 = .ok (.aload_n 0, 1) := by decide +kernel
theorem dX10_task_76 : decode cX10_task 76 = .ok (.iload_n 1, 1) := by decide +kernel
theorem dX10_task_77 : decode cX10_task 77 = .ok (.iconst 4, 1) := by decide +kernel
theorem dX10_task_78 : decode cX10_task 78 = .ok (.invokevirtual 209, 3) := by decide +kernel
theorem dX10_task_81 : decode cX10_task 81 = .ok (.iconst 3, 1) := by decide +kernel
theorem dX10_task_82 : decode cX10_task 82 = .ok (.if_icmp .ne 12, 3) := by decide +kernel
theorem dX10_task_85 : decode cX10_task 85 = .ok (.aload_n 0, 1) := by decide +kernel
theorem dX10_task_86 : decode cX10_task 86 = .ok (.iload_n 1, 1) := by decide +kernel
theorem dX10_task_87 : decode cX10_task 87 = .ok (.iconst 5, 1) := by decide +kernel
theorem dX10_task_88 : decode cX10_task 88 = .ok (.invokevirtual 209, 3) := by decide +kernel
theorem dX10_task_91 : decode cX10_task 91 = .ok (.goto 4, 3) := by decide +kernel
theorem dX10_task_94 : decode cX10_task 94 = .ok (.iconst 0, 1) := by decide +kernel
theorem dX10_task_95 : decode cX10_task 95 = .ok (.ireturn, 1) := by decide +kernel
theorem dX10_task_96 : decode cX10_task 96 = .ok (.aload_n 0, 1) := by decide +kernel
theorem dX10_task_97 : decode cX10_task 97 = .ok (.iload_n 1, 1) := by decide +kernel
theorem dX10_task_98 : decode cX10_task 98 = .ok (.bipush 6, 2) := by decide +kernel
theorem dX10_task_100 : decode cX10_task 100 = .ok (.invokevirtual 209, 3) := by decide +kernel
theorem dX10_task_103 : decode cX10_task 103 = .ok (.ireturn, 1) := by decide +kernel
theorem dX10_task_104 : decode cX10_task 104 = .ok (.aload_n 0, 1) := by decide +kernel
theorem dX10_task_105 : decode cX10_task 105 = .ok (.iload_n 1, 1) := by decide +kernel
theorem dX10_task_106 : decode cX10_task 106 = .ok (.bipush 7, 2) := by decide +kernel
theorem dX10_task_108 : decode cX10_task 108 = .ok (.invokevirtual 209, 3) := by decide +kernel
theorem dX10_task_111 : decode cX10_task 111 = .ok (.ireturn, 1) := by decide +kernel
theorem dX10_task_112 : decode cX10_task 112 = .ok (.aload_n 0, 1) := by decide +kernel
theorem dX10_task_113 : decode cX10_task 113 = .ok (.iload_n 1, 1) := by decide +kernel
theorem dX10_task_114 : decode cX10_task 114 = .ok (.iconst 0, 1) := by decide +kernel
theorem dX10_task_115 : decode cX10_task 115 = .ok (.invokevirtual 209, 3) := by decide +kernel
theorem dX10_task_118 : decode cX10_task 118 = .ok (.ireturn, 1) := by decide +kernel
theorem dX10_task_119 : decode cX10_task 119 = .ok (.aload_n 0, 1) := by decide +kernel
