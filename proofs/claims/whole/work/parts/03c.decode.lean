/-! decode rows, printed by the kit for this class -/
theorem dX10_task_120 : decode cX10_task 120 = .ok (.iload_n 1, 1) := by decide +kernel
theorem dX10_task_121 : decode cX10_task 121 = .ok (.iconst 1, 1) := by decide +kernel
theorem dX10_task_122 : decode cX10_task 122 = .ok (.invokevirtual 209, 3) := by decide +kernel
theorem dX10_task_125 : decode cX10_task 125 = .ok (.ireturn, 1) := by decide +kernel
theorem dX10_task_126 : decode cX10_task 126 = .ok (.aload_n 0, 1) := by decide +kernel
theorem dX10_task_127 : decode cX10_task 127 = .ok (.iload_n 1, 1) := by decide +kernel
theorem dX10_task_128 : decode cX10_task 128 = .ok (.iconst 2, 1) := by decide +kernel
theorem dX10_task_129 : decode cX10_task 129 = .ok (.invokevirtual 209, 3) := by decide +kernel
theorem dX10_task_132 : decode cX10_task 132 = .ok (.ireturn, 1) := by decide +kernel
theorem dX10_task_133 : decode cX10_task 133 = .ok (.aload_n 0, 1) := by decide +kernel
theorem dX10_task_134 : decode cX10_task 134 = .ok (.iload_n 1, 1) := by decide +kernel
theorem dX10_task_135 : decode cX10_task 135 = .ok (.iconst 3, 1) := by decide +kernel
theorem dX10_task_136 : decode cX10_task 136 = .ok (.invokevirtual 209, 3) := by decide +kernel
theorem dX10_task_139 : decode cX10_task 139 = .ok (.ireturn, 1) := by decide +kernel
theorem dX10_task_140 : decode cX10_task 140 = .ok (.aload_n 0, 1) := by decide +kernel
theorem dX10_task_141 : decode cX10_task 141 = .ok (.iconst 2, 1) := by decide +kernel
theorem dX10_task_142 : decode cX10_task 142 = .ok (.invokevirtual 164, 3) := by decide +kernel
theorem dX10_task_145 : decode cX10_task 145 = .ok (.ireturn, 1) := by decide +kernel
theorem dX10_assignAll_0 : decode cX10_assignAll 0 = .ok (.aload_n 0, 1) := by decide +kernel
theorem dX10_assignAll_1 : decode cX10_assignAll 1 = .ok (.iconst 0, 1) := by decide +kernel
theorem dX10_assignAll_2 : decode cX10_assignAll 2 = .ok (.putfield 51, 3) := by decide +kernel
theorem dX10_assignAll_5 : decode cX10_assignAll 5 = .ok (.iconst 0, 1) := by decide +kernel
theorem dX10_assignAll_6 : decode cX10_assignAll 6 = .ok (.istore_n 1, 1) := by decide +kernel
theorem dX10_assignAll_7 : decode cX10_assignAll 7 = .ok (.iconst 0, 1) := by decide +kernel
theorem dX10_assignAll_8 : decode cX10_assignAll 8 = .ok (.istore_n 2, 1) := by decide +kernel
theorem dX10_assignAll_9 : decode cX10_assignAll 9 = .ok (.iload_n 2, 1) := by decide +kernel
theorem dX10_assignAll_10 : decode cX10_assignAll 10 = .ok (.aload_n 0, 1) := by decide +kernel
theorem dX10_assignAll_11 : decode cX10_assignAll 11 = .ok (.getfield 7, 3) := by decide +kernel
theorem dX10_assignAll_14 : decode cX10_assignAll 14 = .ok (.bipush 7, 2) := by decide +kernel
theorem dX10_assignAll_16 : decode cX10_assignAll 16 = .ok (.iaload, 1) := by decide +kernel
theorem dX10_assignAll_17 : decode cX10_assignAll 17 = .ok (.if_icmp .ge 28, 3) := by decide +kernel
theorem dX10_assignAll_20 : decode cX10_assignAll 20 = .ok (.iload_n 1, 1) := by decide +kernel
theorem dX10_assignAll_21 : decode cX10_assignAll 21 = .ok (.aload_n 0, 1) := by decide +kernel
theorem dX10_assignAll_22 : decode cX10_assignAll 22 = .ok (.iload_n 2, 1) := by decide +kernel
theorem dX10_assignAll_23 : decode cX10_assignAll 23 = .ok (.iconst 4, 1) := by decide +kernel
theorem dX10_assignAll_24 : decode cX10_assignAll 24 = .ok (.invokevirtual 209, 3) := by decide +kernel
theorem dX10_assignAll_27 : decode cX10_assignAll 27 = .ok (.ifCond .ne 9, 3) := by decide +kernel
theorem dX10_assignAll_30 : decode cX10_assignAll 30 = .ok (.iconst 1, 1) := by decide +kernel
theorem dX10_assignAll_31 : decode cX10_assignAll 31 = .ok (.iload_n 2, 1) := by decide +kernel
theorem dX10_assignAll_32 : decode cX10_assignAll 32 = .ok (.ishl, 1) := by decide +kernel
theorem dX10_assignAll_33 : decode cX10_assignAll 33 = .ok (.goto 4, 3) := by decide +kernel
theorem dX10_assignAll_36 : decode cX10_assignAll 36 = .ok (.iconst 0, 1) := by decide +kernel
theorem dX10_assignAll_37 : decode cX10_assignAll 37 = .ok (.ior, 1) := by decide +kernel
theorem dX10_assignAll_38 : decode cX10_assignAll 38 = .ok (.istore_n 1, 1) := by decide +kernel
theorem dX10_assignAll_39 : decode cX10_assignAll 39 = .ok (.iinc 2 1, 3) := by decide +kernel
theorem dX10_assignAll_42 : decode cX10_assignAll 42 = .ok (.goto (-33), 3) := by decide +kernel
theorem dX10_assignAll_45 : decode cX10_assignAll 45 = .ok (.iconst 0, 1) := by decide +kernel
theorem dX10_assignAll_46 : decode cX10_assignAll 46 = .ok (.istore_n 2, 1) := by decide +kernel
theorem dX10_assignAll_47 : decode cX10_assignAll 47 = .ok (.iload_n 1, 1) := by decide +kernel
theorem dX10_assignAll_48 : decode cX10_assignAll 48 = .ok (.ifCond .eq 103, 3) := by decide +kernel
theorem dX10_assignAll_51 : decode cX10_assignAll 51 = .ok (.iconst (-1), 1) := by decide +kernel
theorem dX10_assignAll_52 : decode cX10_assignAll 52 = .ok (.istore_n 3, 1) := by decide +kernel
theorem dX10_assignAll_53 : decode cX10_assignAll 53 = .ok (.iconst 0, 1) := by decide +kernel
theorem dX10_assignAll_54 : decode cX10_assignAll 54 = .ok (.istore 4, 2) := by decide +kernel
theorem dX10_assignAll_56 : decode cX10_assignAll 56 = .ok (.iload 4, 2) := by decide +kernel
theorem dX10_assignAll_58 : decode cX10_assignAll 58 = .ok (.aload_n 0, 1) := by decide +kernel
theorem dX10_assignAll_59 : decode cX10_assignAll 59 = .ok (.getfield 7, 3) := by decide +kernel
theorem dX10_assignAll_62 : decode cX10_assignAll 62 = .ok (.bipush 7, 2) := by decide +kernel
theorem dX10_assignAll_64 : decode cX10_assignAll 64 = .ok (.iaload, 1) := by decide +kernel
theorem dX10_assignAll_65 : decode cX10_assignAll 65 = .ok (.if_icmp .ge 43, 3) := by decide +kernel
theorem dX10_assignAll_68 : decode cX10_assignAll 68 = .ok (.iload_n 1, 1) := by decide +kernel
theorem dX10_assignAll_69 : decode cX10_assignAll 69 = .ok (.iload 4, 2) := by decide +kernel
theorem dX10_assignAll_71 : decode cX10_assignAll 71 = .ok (.ishr, 1) := by decide +kernel
theorem dX10_assignAll_72 : decode cX10_assignAll 72 = .ok (.iconst 1, 1) := by decide +kernel
theorem dX10_assignAll_73 : decode cX10_assignAll 73 = .ok (.iand, 1) := by decide +kernel
theorem dX10_assignAll_74 : decode cX10_assignAll 74 = .ok (.iconst 1, 1) := by decide +kernel
theorem dX10_assignAll_75 : decode cX10_assignAll 75 = .ok (.if_icmp .ne 27, 3) := by decide +kernel
theorem dX10_assignAll_78 : decode cX10_assignAll 78 = .ok (.iload_n 3, 1) := by decide +kernel
theorem dX10_assignAll_79 : decode cX10_assignAll 79 = .ok (.iconst (-1), 1) := by decide +kernel
theorem dX10_assignAll_80 : decode cX10_assignAll 80 = .ok (.if_icmp .eq 19, 3) := by decide +kernel
theorem dX10_assignAll_83 : decode cX10_assignAll 83 = .ok (.aload_n 0, 1) := by decide +kernel
theorem dX10_assignAll_84 : decode cX10_assignAll 84 = .ok (.iload 4, 2) := by decide +kernel
theorem dX10_assignAll_86 : decode cX10_assignAll 86 = .ok (.iconst 3, 1) := by decide +kernel
theorem dX10_assignAll_87 : decode cX10_assignAll 87 = .ok (.invokevirtual 209, 3) := by decide +kernel
theorem dX10_assignAll_90 : decode cX10_assignAll 90 = .ok (.aload_n 0, 1) := by decide +kernel
theorem dX10_assignAll_91 : decode cX10_assignAll 91 = .ok (.iload_n 3, 1) := by decide +kernel
theorem dX10_assignAll_92 : decode cX10_assignAll 92 = .ok (.iconst 3, 1) := by decide +kernel
theorem dX10_assignAll_93 : decode cX10_assignAll 93 = .ok (.invokevirtual 209, 3) := by decide +kernel
theorem dX10_assignAll_96 : decode cX10_assignAll 96 = .ok (.if_icmp .ge 6, 3) := by decide +kernel
theorem dX10_assignAll_99 : decode cX10_assignAll 99 = .ok (.iload 4, 2) := by decide +kernel
theorem dX10_assignAll_101 : decode cX10_assignAll 101 = .ok (.istore_n 3, 1) := by decide +kernel
theorem dX10_assignAll_102 : decode cX10_assignAll 102 = .ok (.iinc 4 1, 3) := by decide +kernel
theorem dX10_assignAll_105 : decode cX10_assignAll 105 = .ok (.goto (-49), 3) := by decide +kernel
theorem dX10_assignAll_108 : decode cX10_assignAll 108 = .ok (.iload_n 1, 1) := by decide +kernel
theorem dX10_assignAll_109 : decode cX10_assignAll 109 = .ok (.iconst 1, 1) := by decide +kernel
theorem dX10_assignAll_110 : decode cX10_assignAll 110 = .ok (.iload_n 3, 1) := by decide +kernel
theorem dX10_assignAll_111 : decode cX10_assignAll 111 = .ok (.ishl, 1) := by decide +kernel
theorem dX10_assignAll_112 : decode cX10_assignAll 112 = .ok (.iconst (-1), 1) := by decide +kernel
theorem dX10_assignAll_113 : decode cX10_assignAll 113 = .ok (.ixor, 1) := by decide +kernel
theorem dX10_assignAll_114 : decode cX10_assignAll 114 = .ok (.iand, 1) := by decide +kernel
theorem dX10_assignAll_115 : decode cX10_assignAll 115 = .ok (.istore_n 1, 1) := by decide +kernel
theorem dX10_assignAll_116 : decode cX10_assignAll 116 = .ok (.aload_n 0, 1) := by decide +kernel
theorem dX10_assignAll_117 : decode cX10_assignAll 117 = .ok (.iload_n 3, 1) := by decide +kernel
theorem dX10_assignAll_118 : decode cX10_assignAll 118 = .ok (.iconst 1, 1) := by decide +kernel
theorem dX10_assignAll_119 : decode cX10_assignAll 119 = .ok (.invokevirtual 228, 3) := by decide +kernel
theorem dX10_assignAll_122 : decode cX10_assignAll 122 = .ok (.istore 4, 2) := by decide +kernel
theorem dX10_assignAll_124 : decode cX10_assignAll 124 = .ok (.iload 4, 2) := by decide +kernel
theorem dX10_assignAll_126 : decode cX10_assignAll 126 = .ok (.iconst (-1), 1) := by decide +kernel
theorem dX10_assignAll_127 : decode cX10_assignAll 127 = .ok (.if_icmp .eq 21, 3) := by decide +kernel
theorem dX10_assignAll_130 : decode cX10_assignAll 130 = .ok (.iinc 2 1, 3) := by decide +kernel
theorem dX10_assignAll_133 : decode cX10_assignAll 133 = .ok (.aload_n 0, 1) := by decide +kernel
theorem dX10_assignAll_134 : decode cX10_assignAll 134 = .ok (.iload_n 3, 1) := by decide +kernel
theorem dX10_assignAll_135 : decode cX10_assignAll 135 = .ok (.iload 4, 2) := by decide +kernel
theorem dX10_assignAll_137 : decode cX10_assignAll 137 = .ok (.invokevirtual 221, 3) := by decide +kernel
theorem dX10_assignAll_140 : decode cX10_assignAll 140 = .ok (.pop, 1) := by decide +kernel
theorem dX10_assignAll_141 : decode cX10_assignAll 141 = .ok (.aload_n 0, 1) := by decide +kernel
theorem dX10_assignAll_142 : decode cX10_assignAll 142 = .ok (.iload_n 3, 1) := by decide +kernel
theorem dX10_assignAll_143 : decode cX10_assignAll 143 = .ok (.iload 4, 2) := by decide +kernel
theorem dX10_assignAll_145 : decode cX10_assignAll 145 = .ok (.invokevirtual 224, 3) := by decide +kernel
theorem dX10_assignAll_148 : decode cX10_assignAll 148 = .ok (.goto (-101), 3) := by decide +kernel
theorem dX10_assignAll_151 : decode cX10_assignAll 151 = .ok (.iload_n 2, 1) := by decide +kernel
theorem dX10_assignAll_152 : decode cX10_assignAll 152 = .ok (.ireturn, 1) := by decide +kernel
theorem dX10_tasksIn_0 : decode cX10_tasksIn 0 = .ok (.aload_n 0, 1) := by decide +kernel
theorem dX10_tasksIn_1 : decode cX10_tasksIn 1 = .ok (.iconst 0, 1) := by decide +kernel
theorem dX10_tasksIn_2 : decode cX10_tasksIn 2 = .ok (.putfield 51, 3) := by decide +kernel
theorem dX10_tasksIn_5 : decode cX10_tasksIn 5 = .ok (.iload_n 1, 1) := by decide +kernel
theorem dX10_tasksIn_6 : decode cX10_tasksIn 6 = .ok (.iconst 0, 1) := by decide +kernel
theorem dX10_tasksIn_7 : decode cX10_tasksIn 7 = .ok (.iconst 3, 1) := by decide +kernel
theorem dX10_tasksIn_8 : decode cX10_tasksIn 8 = .ok (.invokestatic 54, 3) := by decide +kernel
theorem dX10_tasksIn_11 : decode cX10_tasksIn 11 = .ok (.ifCond .ne 9, 3) := by decide +kernel
theorem dX10_tasksIn_14 : decode cX10_tasksIn 14 = .ok (.aload_n 0, 1) := by decide +kernel
theorem dX10_tasksIn_15 : decode cX10_tasksIn 15 = .ok (.iconst 1, 1) := by decide +kernel
theorem dX10_tasksIn_16 : decode cX10_tasksIn 16 = .ok (.invokevirtual 164, 3) := by decide +kernel
theorem dX10_tasksIn_19 : decode cX10_tasksIn 19 = .ok (.ireturn, 1) := by decide +kernel
theorem dX10_tasksIn_20 : decode cX10_tasksIn 20 = .ok (.iconst 0, 1) := by decide +kernel
theorem dX10_tasksIn_21 : decode cX10_tasksIn 21 = .ok (.istore_n 2, 1) := by decide +kernel
theorem dX10_tasksIn_22 : decode cX10_tasksIn 22 = .ok (.iconst 0, 1) := by decide +kernel
theorem dX10_tasksIn_23 : decode cX10_tasksIn 23 = .ok (.istore_n 3, 1) := by decide +kernel
theorem dX10_tasksIn_24 : decode cX10_tasksIn 24 = .ok (.iload_n 3, 1) := by decide +kernel
theorem dX10_tasksIn_25 : decode cX10_tasksIn 25 = .ok (.aload_n 0, 1) := by decide +kernel
theorem dX10_tasksIn_26 : decode cX10_tasksIn 26 = .ok (.getfield 7, 3) := by decide +kernel
theorem dX10_tasksIn_29 : decode cX10_tasksIn 29 = .ok (.bipush 7, 2) := by decide +kernel
theorem dX10_tasksIn_31 : decode cX10_tasksIn 31 = .ok (.iaload, 1) := by decide +kernel
theorem dX10_tasksIn_32 : decode cX10_tasksIn 32 = .ok (.if_icmp .ge 27, 3) := by decide +kernel
theorem dX10_tasksIn_35 : decode cX10_tasksIn 35 = .ok (.iload_n 2, 1) := by decide +kernel
theorem dX10_tasksIn_36 : decode cX10_tasksIn 36 = .ok (.aload_n 0, 1) := by decide +kernel
theorem dX10_tasksIn_37 : decode cX10_tasksIn 37 = .ok (.iload_n 3, 1) := by decide +kernel
theorem dX10_tasksIn_38 : decode cX10_tasksIn 38 = .ok (.iconst 4, 1) := by decide +kernel
theorem dX10_tasksIn_39 : decode cX10_tasksIn 39 = .ok (.invokevirtual 209, 3) := by decide +kernel
theorem dX10_tasksIn_42 : decode cX10_tasksIn 42 = .ok (.iload_n 1, 1) := by decide +kernel
theorem dX10_tasksIn_43 : decode cX10_tasksIn 43 = .ok (.if_icmp .ne 7, 3) := by decide +kernel
theorem dX10_tasksIn_46 : decode cX10_tasksIn 46 = .ok (.iconst 1, 1) := by decide +kernel
theorem dX10_tasksIn_47 : decode cX10_tasksIn 47 = .ok (.goto 4, 3) := by decide +kernel
theorem dX10_tasksIn_50 : decode cX10_tasksIn 50 = .ok (.iconst 0, 1) := by decide +kernel
theorem dX10_tasksIn_51 : decode cX10_tasksIn 51 = .ok (.iadd, 1) := by decide +kernel
theorem dX10_tasksIn_52 : decode cX10_tasksIn 52 = .ok (.istore_n 2, 1) := by decide +kernel
theorem dX10_tasksIn_53 : decode cX10_tasksIn 53 = .ok (.iinc 3 1, 3) := by decide +kernel
theorem dX10_tasksIn_56 : decode cX10_tasksIn 56 = .ok (.goto (-32), 3) := by decide +kernel
theorem dX10_tasksIn_59 : decode cX10_tasksIn 59 = .ok (.iload_n 2, 1) := by decide +kernel
theorem dX10_tasksIn_60 : decode cX10_tasksIn 60 = .ok (.ireturn, 1) := by decide +kernel
theorem dX10_waits_0 : decode cX10_waits 0 = .ok (.aload_n 0, 1) := by decide +kernel
theorem dX10_waits_1 : decode cX10_waits 1 = .ok (.iload_n 1, 1) := by decide +kernel
theorem dX10_waits_2 : decode cX10_waits 2 = .ok (.bipush 7, 2) := by decide +kernel
theorem dX10_waits_4 : decode cX10_waits 4 = .ok (.iconst 1, 1) := by decide +kernel
theorem dX10_waits_5 : decode cX10_waits 5 = .ok (.invokevirtual 232, 3) := by decide +kernel
theorem dX10_waits_8 : decode cX10_waits 8 = .ok (.aload_n 0, 1) := by decide +kernel
theorem dX10_waits_9 : decode cX10_waits 9 = .ok (.getfield 7, 3) := by decide +kernel
theorem dX10_waits_12 : decode cX10_waits 12 = .ok (.bipush 8, 2) := by decide +kernel
theorem dX10_waits_14 : decode cX10_waits 14 = .ok (.aload_n 0, 1) := by decide +kernel
theorem dX10_waits_15 : decode cX10_waits 15 = .ok (.iload_n 1, 1) := by decide +kernel
theorem dX10_waits_16 : decode cX10_waits 16 = .ok (.iconst 0, 1) := by decide +kernel
theorem dX10_waits_17 : decode cX10_waits 17 = .ok (.invokevirtual 58, 3) := by decide +kernel
theorem dX10_waits_20 : decode cX10_waits 20 = .ok (.iadd, 1) := by decide +kernel
theorem dX10_waits_21 : decode cX10_waits 21 = .ok (.iaload, 1) := by decide +kernel
theorem dX10_waits_22 : decode cX10_waits 22 = .ok (.iconst 2, 1) := by decide +kernel
theorem dX10_waits_23 : decode cX10_waits 23 = .ok (.if_icmp .eq 4, 3) := by decide +kernel
theorem dX10_waits_26 : decode cX10_waits 26 = .ok (.return_, 1) := by decide +kernel
theorem dX10_waits_27 : decode cX10_waits 27 = .ok (.iconst 5, 1) := by decide +kernel
theorem dX10_waits_28 : decode cX10_waits 28 = .ok (.bipush 100, 2) := by decide +kernel
theorem dX10_waits_30 : decode cX10_waits 30 = .ok (.aload_n 0, 1) := by decide +kernel
theorem dX10_waits_31 : decode cX10_waits 31 = .ok (.iload_n 1, 1) := by decide +kernel
theorem dX10_waits_32 : decode cX10_waits 32 = .ok (.iconst 1, 1) := by decide +kernel
theorem dX10_waits_33 : decode cX10_waits 33 = .ok (.invokevirtual 58, 3) := by decide +kernel
theorem dX10_waits_36 : decode cX10_waits 36 = .ok (.isub, 1) := by decide +kernel
theorem dX10_waits_37 : decode cX10_waits 37 = .ok (.invokestatic 104, 3) := by decide +kernel
theorem dX10_waits_40 : decode cX10_waits 40 = .ok (.istore_n 2, 1) := by decide +kernel
theorem dX10_waits_41 : decode cX10_waits 41 = .ok (.aload_n 0, 1) := by decide +kernel
theorem dX10_waits_42 : decode cX10_waits 42 = .ok (.iload_n 1, 1) := by decide +kernel
theorem dX10_waits_43 : decode cX10_waits 43 = .ok (.iconst 1, 1) := by decide +kernel
theorem dX10_waits_44 : decode cX10_waits 44 = .ok (.iload_n 2, 1) := by decide +kernel
theorem dX10_waits_45 : decode cX10_waits 45 = .ok (.invokevirtual 232, 3) := by decide +kernel
theorem dX10_waits_48 : decode cX10_waits 48 = .ok (.aload_n 0, 1) := by decide +kernel
theorem dX10_waits_49 : decode cX10_waits 49 = .ok (.iload_n 1, 1) := by decide +kernel
theorem dX10_waits_50 : decode cX10_waits 50 = .ok (.bipush 9, 2) := by decide +kernel
theorem dX10_waits_52 : decode cX10_waits 52 = .ok (.iload_n 2, 1) := by decide +kernel
theorem dX10_waits_53 : decode cX10_waits 53 = .ok (.invokevirtual 232, 3) := by decide +kernel
theorem dX10_waits_56 : decode cX10_waits 56 = .ok (.return_, 1) := by decide +kernel
theorem dX10_shifts_0 : decode cX10_shifts 0 = .ok (.aload_n 0, 1) := by decide +kernel
theorem dX10_shifts_1 : decode cX10_shifts 1 = .ok (.iload_n 1, 1) := by decide +kernel
theorem dX10_shifts_2 : decode cX10_shifts 2 = .ok (.iconst 3, 1) := by decide +kernel
theorem dX10_shifts_3 : decode cX10_shifts 3 = .ok (.iconst 0, 1) := by decide +kernel
theorem dX10_shifts_4 : decode cX10_shifts 4 = .ok (.invokevirtual 145, 3) := by decide +kernel
theorem dX10_shifts_7 : decode cX10_shifts 7 = .ok (.aload_n 0, 1) := by decide +kernel
theorem dX10_shifts_8 : decode cX10_shifts 8 = .ok (.iload_n 1, 1) := by decide +kernel
theorem dX10_shifts_9 : decode cX10_shifts 9 = .ok (.iconst 2, 1) := by decide +kernel
theorem dX10_shifts_10 : decode cX10_shifts 10 = .ok (.aload_n 0, 1) := by decide +kernel
theorem dX10_shifts_11 : decode cX10_shifts 11 = .ok (.iload_n 1, 1) := by decide +kernel
theorem dX10_shifts_12 : decode cX10_shifts 12 = .ok (.iconst 2, 1) := by decide +kernel
theorem dX10_shifts_13 : decode cX10_shifts 13 = .ok (.invokevirtual 58, 3) := by decide +kernel
theorem dX10_shifts_16 : decode cX10_shifts 16 = .ok (.iconst 1, 1) := by decide +kernel
theorem dX10_shifts_17 : decode cX10_shifts 17 = .ok (.isub, 1) := by decide +kernel
theorem dX10_shifts_18 : decode cX10_shifts 18 = .ok (.invokevirtual 145, 3) := by decide +kernel
theorem dX10_shifts_21 : decode cX10_shifts 21 = .ok (.iconst 0, 1) := by decide +kernel
theorem dX10_shifts_22 : decode cX10_shifts 22 = .ok (.istore_n 2, 1) := by decide +kernel
theorem dX10_shifts_23 : decode cX10_shifts 23 = .ok (.iload_n 2, 1) := by decide +kernel
theorem dX10_shifts_24 : decode cX10_shifts 24 = .ok (.aload_n 0, 1) := by decide +kernel
theorem dX10_shifts_25 : decode cX10_shifts 25 = .ok (.iload_n 1, 1) := by decide +kernel
theorem dX10_shifts_26 : decode cX10_shifts 26 = .ok (.iconst 2, 1) := by decide +kernel
theorem dX10_shifts_27 : decode cX10_shifts 27 = .ok (.invokevirtual 58, 3) := by decide +kernel
theorem dX10_shifts_30 : decode cX10_shifts 30 = .ok (.if_icmp .ge 26, 3) := by decide +kernel
theorem dX10_shifts_33 : decode cX10_shifts 33 = .ok (.aload_n 0, 1) := by decide +kernel
theorem dX10_shifts_34 : decode cX10_shifts 34 = .ok (.iload_n 1, 1) := by decide +kernel
theorem dX10_shifts_35 : decode cX10_shifts 35 = .ok (.bipush 11, 2) := by decide +kernel
theorem dX10_shifts_37 : decode cX10_shifts 37 = .ok (.iload_n 2, 1) := by decide +kernel
theorem dX10_shifts_38 : decode cX10_shifts 38 = .ok (.iadd, 1) := by decide +kernel
theorem dX10_shifts_39 : decode cX10_shifts 39 = .ok (.aload_n 0, 1) := by decide +kernel
theorem dX10_shifts_40 : decode cX10_shifts 40 = .ok (.iload_n 1, 1) := by decide +kernel
theorem dX10_shifts_41 : decode cX10_shifts 41 = .ok (.iload_n 2, 1) := by decide +kernel
theorem dX10_shifts_42 : decode cX10_shifts 42 = .ok (.iconst 1, 1) := by decide +kernel
theorem dX10_shifts_43 : decode cX10_shifts 43 = .ok (.iadd, 1) := by decide +kernel
theorem dX10_shifts_44 : decode cX10_shifts 44 = .ok (.invokevirtual 65, 3) := by decide +kernel
theorem dX10_shifts_47 : decode cX10_shifts 47 = .ok (.invokevirtual 145, 3) := by decide +kernel
theorem dX10_shifts_50 : decode cX10_shifts 50 = .ok (.iinc 2 1, 3) := by decide +kernel
theorem dX10_shifts_53 : decode cX10_shifts 53 = .ok (.goto (-30), 3) := by decide +kernel
theorem dX10_shifts_56 : decode cX10_shifts 56 = .ok (.return_, 1) := by decide +kernel
theorem dX10_does_0 : decode cX10_does 0 = .ok (.aload_n 0, 1) := by decide +kernel
theorem dX10_does_1 : decode cX10_does 1 = .ok (.iload_n 1, 1) := by decide +kernel
theorem dX10_does_2 : decode cX10_does 2 = .ok (.bipush 10, 2) := by decide +kernel
theorem dX10_does_4 : decode cX10_does 4 = .ok (.iconst 1, 1) := by decide +kernel
theorem dX10_does_5 : decode cX10_does 5 = .ok (.invokevirtual 232, 3) := by decide +kernel
theorem dX10_does_8 : decode cX10_does 8 = .ok (.aload_n 0, 1) := by decide +kernel
theorem dX10_does_9 : decode cX10_does 9 = .ok (.iload_n 1, 1) := by decide +kernel
theorem dX10_does_10 : decode cX10_does 10 = .ok (.iconst 2, 1) := by decide +kernel
theorem dX10_does_11 : decode cX10_does 11 = .ok (.invokevirtual 58, 3) := by decide +kernel
theorem dX10_does_14 : decode cX10_does 14 = .ok (.ifCond .le 7, 3) := by decide +kernel
theorem dX10_does_17 : decode cX10_does 17 = .ok (.iconst 1, 1) := by decide +kernel
theorem dX10_does_18 : decode cX10_does 18 = .ok (.goto 4, 3) := by decide +kernel
theorem dX10_does_21 : decode cX10_does 21 = .ok (.iconst 0, 1) := by decide +kernel
theorem dX10_does_22 : decode cX10_does 22 = .ok (.istore_n 2, 1) := by decide +kernel
theorem dX10_does_23 : decode cX10_does 23 = .ok (.iload_n 2, 1) := by decide +kernel
theorem dX10_does_24 : decode cX10_does 24 = .ok (.ifCond .eq 12, 3) := by decide +kernel
theorem dX10_does_27 : decode cX10_does 27 = .ok (.aload_n 0, 1) := by decide +kernel
theorem dX10_does_28 : decode cX10_does 28 = .ok (.iload_n 1, 1) := by decide +kernel
theorem dX10_does_29 : decode cX10_does 29 = .ok (.iconst 0, 1) := by decide +kernel
theorem dX10_does_30 : decode cX10_does 30 = .ok (.invokevirtual 65, 3) := by decide +kernel
theorem dX10_does_33 : decode cX10_does 33 = .ok (.goto 4, 3) := by decide +kernel
theorem dX10_does_36 : decode cX10_does 36 = .ok (.iconst 0, 1) := by decide +kernel
theorem dX10_does_37 : decode cX10_does 37 = .ok (.istore_n 3, 1) := by decide +kernel
theorem dX10_does_38 : decode cX10_does 38 = .ok (.iload_n 3, 1) := by decide +kernel
theorem dX10_does_39 : decode cX10_does 39 = .ok (.ifCond .ne 8, 3) := by decide +kernel
theorem dX10_does_42 : decode cX10_does 42 = .ok (.aload_n 0, 1) := by decide +kernel
theorem dX10_does_43 : decode cX10_does 43 = .ok (.iload_n 1, 1) := by decide +kernel
theorem dX10_does_44 : decode cX10_does 44 = .ok (.invokevirtual 235, 3) := by decide +kernel
theorem dX10_does_47 : decode cX10_does 47 = .ok (.aload_n 0, 1) := by decide +kernel
theorem dX10_does_48 : decode cX10_does 48 = .ok (.iload_n 1, 1) := by decide +kernel
theorem dX10_does_49 : decode cX10_does 49 = .ok (.invokevirtual 151, 3) := by decide +kernel
theorem dX10_does_52 : decode cX10_does 52 = .ok (.ifCond .ne 14, 3) := by decide +kernel
theorem dX10_does_55 : decode cX10_does 55 = .ok (.aload_n 0, 1) := by decide +kernel
theorem dX10_does_56 : decode cX10_does 56 = .ok (.iload_n 1, 1) := by decide +kernel
theorem dX10_does_57 : decode cX10_does 57 = .ok (.iconst 1, 1) := by decide +kernel
theorem dX10_does_58 : decode cX10_does 58 = .ok (.iload_n 3, 1) := by decide +kernel
theorem dX10_does_59 : decode cX10_does 59 = .ok (.invokestatic 101, 3) := by decide +kernel
theorem dX10_does_62 : decode cX10_does 62 = .ok (.ineg, 1) := by decide +kernel
theorem dX10_does_63 : decode cX10_does 63 = .ok (.invokevirtual 232, 3) := by decide +kernel
theorem dX10_does_66 : decode cX10_does 66 = .ok (.iload_n 3, 1) := by decide +kernel
theorem dX10_does_67 : decode cX10_does 67 = .ok (.iconst 5, 1) := by decide +kernel
theorem dX10_does_68 : decode cX10_does 68 = .ok (.if_icmp .lt 19, 3) := by decide +kernel
theorem dX10_does_71 : decode cX10_does 71 = .ok (.aload_n 0, 1) := by decide +kernel
theorem dX10_does_72 : decode cX10_does 72 = .ok (.iload_n 1, 1) := by decide +kernel
theorem dX10_does_73 : decode cX10_does 73 = .ok (.invokevirtual 151, 3) := by decide +kernel
theorem dX10_does_76 : decode cX10_does 76 = .ok (.ifCond .ne 11, 3) := by decide +kernel
theorem dX10_does_79 : decode cX10_does 79 = .ok (.aload_n 0, 1) := by decide +kernel
theorem dX10_does_80 : decode cX10_does 80 = .ok (.iload_n 1, 1) := by decide +kernel
theorem dX10_does_81 : decode cX10_does 81 = .ok (.bipush 6, 2) := by decide +kernel
theorem dX10_does_83 : decode cX10_does 83 = .ok (.iconst 1, 1) := by decide +kernel
theorem dX10_does_84 : decode cX10_does 84 = .ok (.invokevirtual 232, 3) := by decide +kernel
theorem dX10_does_87 : decode cX10_does 87 = .ok (.iload_n 3, 1) := by decide +kernel
theorem dX10_does_88 : decode cX10_does 88 = .ok (.iconst 1, 1) := by decide +kernel
theorem dX10_does_89 : decode cX10_does 89 = .ok (.iconst 4, 1) := by decide +kernel
theorem dX10_does_90 : decode cX10_does 90 = .ok (.invokestatic 54, 3) := by decide +kernel
theorem dX10_does_93 : decode cX10_does 93 = .ok (.ifCond .eq 10, 3) := by decide +kernel
theorem dX10_does_96 : decode cX10_does 96 = .ok (.aload_n 0, 1) := by decide +kernel
theorem dX10_does_97 : decode cX10_does 97 = .ok (.iload_n 1, 1) := by decide +kernel
theorem dX10_does_98 : decode cX10_does 98 = .ok (.iconst 5, 1) := by decide +kernel
theorem dX10_does_99 : decode cX10_does 99 = .ok (.iconst 1, 1) := by decide +kernel
theorem dX10_does_100 : decode cX10_does 100 = .ok (.invokevirtual 232, 3) := by decide +kernel
theorem dX10_does_103 : decode cX10_does 103 = .ok (.iload_n 2, 1) := by decide +kernel
theorem dX10_does_104 : decode cX10_does 104 = .ok (.ifCond .ne 4, 3) := by decide +kernel
theorem dX10_does_107 : decode cX10_does 107 = .ok (.return_, 1) := by decide +kernel
theorem dX10_does_108 : decode cX10_does 108 = .ok (.aload_n 0, 1) := by decide +kernel
theorem dX10_does_109 : decode cX10_does 109 = .ok (.iload_n 1, 1) := by decide +kernel
theorem dX10_does_110 : decode cX10_does 110 = .ok (.iconst 3, 1) := by decide +kernel
theorem dX10_does_111 : decode cX10_does 111 = .ok (.iconst 1, 1) := by decide +kernel
theorem dX10_does_112 : decode cX10_does 112 = .ok (.invokevirtual 232, 3) := by decide +kernel
theorem dX10_does_115 : decode cX10_does 115 = .ok (.aload_n 0, 1) := by decide +kernel
theorem dX10_does_116 : decode cX10_does 116 = .ok (.iload_n 1, 1) := by decide +kernel
theorem dX10_does_117 : decode cX10_does 117 = .ok (.iconst 3, 1) := by decide +kernel
theorem dX10_does_118 : decode cX10_does 118 = .ok (.invokevirtual 58, 3) := by decide +kernel
theorem dX10_does_121 : decode cX10_does 121 = .ok (.iload_n 3, 1) := by decide +kernel
theorem dX10_does_122 : decode cX10_does 122 = .ok (.invokestatic 68, 3) := by decide +kernel
theorem dX10_does_125 : decode cX10_does 125 = .ok (.if_icmp .ne 25, 3) := by decide +kernel
theorem dX10_does_128 : decode cX10_does 128 = .ok (.aload_n 0, 1) := by decide +kernel
theorem dX10_does_129 : decode cX10_does 129 = .ok (.iload_n 1, 1) := by decide +kernel
theorem dX10_does_130 : decode cX10_does 130 = .ok (.iconst 0, 1) := by decide +kernel
theorem dX10_does_131 : decode cX10_does 131 = .ok (.aload_n 0, 1) := by decide +kernel
theorem dX10_does_132 : decode cX10_does 132 = .ok (.aload_n 0, 1) := by decide +kernel
theorem dX10_does_133 : decode cX10_does 133 = .ok (.iload_n 1, 1) := by decide +kernel
theorem dX10_does_134 : decode cX10_does 134 = .ok (.iconst 0, 1) := by decide +kernel
theorem dX10_does_135 : decode cX10_does 135 = .ok (.invokevirtual 58, 3) := by decide +kernel
theorem dX10_does_138 : decode cX10_does 138 = .ok (.iload_n 3, 1) := by decide +kernel
theorem dX10_does_139 : decode cX10_does 139 = .ok (.invokevirtual 72, 3) := by decide +kernel
theorem dX10_does_142 : decode cX10_does 142 = .ok (.invokevirtual 145, 3) := by decide +kernel
theorem dX10_does_145 : decode cX10_does 145 = .ok (.aload_n 0, 1) := by decide +kernel
theorem dX10_does_146 : decode cX10_does 146 = .ok (.iload_n 1, 1) := by decide +kernel
theorem dX10_does_147 : decode cX10_does 147 = .ok (.invokevirtual 238, 3) := by decide +kernel
theorem dX10_does_150 : decode cX10_does 150 = .ok (.return_, 1) := by decide +kernel
theorem dX10_ends_0 : decode cX10_ends 0 = .ok (.aload_n 0, 1) := by decide +kernel
theorem dX10_ends_1 : decode cX10_ends 1 = .ok (.iload_n 1, 1) := by decide +kernel
theorem dX10_ends_2 : decode cX10_ends 2 = .ok (.iconst 4, 1) := by decide +kernel
theorem dX10_ends_3 : decode cX10_ends 3 = .ok (.invokevirtual 58, 3) := by decide +kernel
theorem dX10_ends_6 : decode cX10_ends 6 = .ok (.istore_n 2, 1) := by decide +kernel
theorem dX10_ends_7 : decode cX10_ends 7 = .ok (.iload_n 2, 1) := by decide +kernel
theorem dX10_ends_8 : decode cX10_ends 8 = .ok (.iconst (-1), 1) := by decide +kernel
theorem dX10_ends_9 : decode cX10_ends 9 = .ok (.if_icmp .eq 12, 3) := by decide +kernel
theorem dX10_ends_12 : decode cX10_ends 12 = .ok (.aload_n 0, 1) := by decide +kernel
theorem dX10_ends_13 : decode cX10_ends 13 = .ok (.iload_n 1, 1) := by decide +kernel
theorem dX10_ends_14 : decode cX10_ends 14 = .ok (.iconst 2, 1) := by decide +kernel
theorem dX10_ends_15 : decode cX10_ends 15 = .ok (.invokevirtual 58, 3) := by decide +kernel
theorem dX10_ends_18 : decode cX10_ends 18 = .ok (.ifCond .le 5, 3) := by decide +kernel
theorem dX10_ends_21 : decode cX10_ends 21 = .ok (.iconst 0, 1) := by decide +kernel
theorem dX10_ends_22 : decode cX10_ends 22 = .ok (.ireturn, 1) := by decide +kernel
theorem dX10_ends_23 : decode cX10_ends 23 = .ok (.aload_n 0, 1) := by decide +kernel
theorem dX10_ends_24 : decode cX10_ends 24 = .ok (.iload_n 2, 1) := by decide +kernel
theorem dX10_ends_25 : decode cX10_ends 25 = .ok (.iconst 4, 1) := by decide +kernel
theorem dX10_ends_26 : decode cX10_ends 26 = .ok (.iconst 2, 1) := by decide +kernel
theorem dX10_ends_27 : decode cX10_ends 27 = .ok (.invokevirtual 142, 3) := by decide +kernel
theorem dX10_ends_30 : decode cX10_ends 30 = .ok (.aload_n 0, 1) := by decide +kernel
theorem dX10_ends_31 : decode cX10_ends 31 = .ok (.iload_n 2, 1) := by decide +kernel
theorem dX10_ends_32 : decode cX10_ends 32 = .ok (.bipush 7, 2) := by decide +kernel
theorem dX10_ends_34 : decode cX10_ends 34 = .ok (.aload_n 0, 1) := by decide +kernel
theorem dX10_ends_35 : decode cX10_ends 35 = .ok (.getfield 7, 3) := by decide +kernel
theorem dX10_ends_38 : decode cX10_ends 38 = .ok (.iconst 0, 1) := by decide +kernel
theorem dX10_ends_39 : decode cX10_ends 39 = .ok (.iaload, 1) := by decide +kernel
theorem dX10_ends_40 : decode cX10_ends 40 = .ok (.invokevirtual 142, 3) := by decide +kernel
theorem dX10_ends_43 : decode cX10_ends 43 = .ok (.aload_n 0, 1) := by decide +kernel
theorem dX10_ends_44 : decode cX10_ends 44 = .ok (.iload_n 1, 1) := by decide +kernel
theorem dX10_ends_45 : decode cX10_ends 45 = .ok (.iconst 4, 1) := by decide +kernel
theorem dX10_ends_46 : decode cX10_ends 46 = .ok (.iconst (-1), 1) := by decide +kernel
theorem dX10_ends_47 : decode cX10_ends 47 = .ok (.invokevirtual 145, 3) := by decide +kernel
theorem dX10_ends_50 : decode cX10_ends 50 = .ok (.aload_n 0, 1) := by decide +kernel
theorem dX10_ends_51 : decode cX10_ends 51 = .ok (.iload_n 1, 1) := by decide +kernel
theorem dX10_ends_52 : decode cX10_ends 52 = .ok (.bipush 8, 2) := by decide +kernel
theorem dX10_ends_54 : decode cX10_ends 54 = .ok (.iconst 1, 1) := by decide +kernel
theorem dX10_ends_55 : decode cX10_ends 55 = .ok (.invokevirtual 232, 3) := by decide +kernel
theorem dX10_ends_58 : decode cX10_ends 58 = .ok (.iconst 1, 1) := by decide +kernel
theorem dX10_ends_59 : decode cX10_ends 59 = .ok (.ireturn, 1) := by decide +kernel
theorem dX10_ticks_0 : decode cX10_ticks 0 = .ok (.iconst 0, 1) := by decide +kernel
theorem dX10_ticks_1 : decode cX10_ticks 1 = .ok (.istore_n 1, 1) := by decide +kernel
theorem dX10_ticks_2 : decode cX10_ticks 2 = .ok (.iconst 0, 1) := by decide +kernel
theorem dX10_ticks_3 : decode cX10_ticks 3 = .ok (.istore_n 2, 1) := by decide +kernel
theorem dX10_ticks_4 : decode cX10_ticks 4 = .ok (.iload_n 2, 1) := by decide +kernel
theorem dX10_ticks_5 : decode cX10_ticks 5 = .ok (.aload_n 0, 1) := by decide +kernel
theorem dX10_ticks_6 : decode cX10_ticks 6 = .ok (.getfield 7, 3) := by decide +kernel
theorem dX10_ticks_9 : decode cX10_ticks 9 = .ok (.bipush 6, 2) := by decide +kernel
theorem dX10_ticks_11 : decode cX10_ticks 11 = .ok (.iaload, 1) := by decide +kernel
theorem dX10_ticks_12 : decode cX10_ticks 12 = .ok (.if_icmp .ge 14, 3) := by decide +kernel
theorem dX10_ticks_15 : decode cX10_ticks 15 = .ok (.aload_n 0, 1) := by decide +kernel
theorem dX10_ticks_16 : decode cX10_ticks 16 = .ok (.iload_n 2, 1) := by decide +kernel
theorem dX10_ticks_17 : decode cX10_ticks 17 = .ok (.invokevirtual 241, 3) := by decide +kernel
theorem dX10_ticks_20 : decode cX10_ticks 20 = .ok (.iinc 2 1, 3) := by decide +kernel
theorem dX10_ticks_23 : decode cX10_ticks 23 = .ok (.goto (-19), 3) := by decide +kernel
theorem dX10_ticks_26 : decode cX10_ticks 26 = .ok (.aload_n 0, 1) := by decide +kernel
theorem dX10_ticks_27 : decode cX10_ticks 27 = .ok (.getfield 7, 3) := by decide +kernel
theorem dX10_ticks_30 : decode cX10_ticks 30 = .ok (.iconst 0, 1) := by decide +kernel
theorem dX10_ticks_31 : decode cX10_ticks 31 = .ok (.dup2, 1) := by decide +kernel
theorem dX10_ticks_32 : decode cX10_ticks 32 = .ok (.iaload, 1) := by decide +kernel
theorem dX10_ticks_33 : decode cX10_ticks 33 = .ok (.iconst 1, 1) := by decide +kernel
theorem dX10_ticks_34 : decode cX10_ticks 34 = .ok (.iadd, 1) := by decide +kernel
theorem dX10_ticks_35 : decode cX10_ticks 35 = .ok (.iastore, 1) := by decide +kernel
theorem dX10_ticks_36 : decode cX10_ticks 36 = .ok (.iconst 0, 1) := by decide +kernel
theorem dX10_ticks_37 : decode cX10_ticks 37 = .ok (.istore_n 2, 1) := by decide +kernel
theorem dX10_ticks_38 : decode cX10_ticks 38 = .ok (.iload_n 2, 1) := by decide +kernel
theorem dX10_ticks_39 : decode cX10_ticks 39 = .ok (.aload_n 0, 1) := by decide +kernel
theorem dX10_ticks_40 : decode cX10_ticks 40 = .ok (.getfield 7, 3) := by decide +kernel
theorem dX10_ticks_43 : decode cX10_ticks 43 = .ok (.bipush 6, 2) := by decide +kernel
theorem dX10_ticks_45 : decode cX10_ticks 45 = .ok (.iaload, 1) := by decide +kernel
theorem dX10_ticks_46 : decode cX10_ticks 46 = .ok (.if_icmp .ge 51, 3) := by decide +kernel
theorem dX10_ticks_49 : decode cX10_ticks 49 = .ok (.iload_n 1, 1) := by decide +kernel
theorem dX10_ticks_50 : decode cX10_ticks 50 = .ok (.aload_n 0, 1) := by decide +kernel
theorem dX10_ticks_51 : decode cX10_ticks 51 = .ok (.iload_n 2, 1) := by decide +kernel
theorem dX10_ticks_52 : decode cX10_ticks 52 = .ok (.invokevirtual 244, 3) := by decide +kernel
theorem dX10_ticks_55 : decode cX10_ticks 55 = .ok (.ifCond .eq 7, 3) := by decide +kernel
theorem dX10_ticks_58 : decode cX10_ticks 58 = .ok (.iconst 1, 1) := by decide +kernel
theorem dX10_ticks_59 : decode cX10_ticks 59 = .ok (.goto 4, 3) := by decide +kernel
theorem dX10_ticks_62 : decode cX10_ticks 62 = .ok (.iconst 0, 1) := by decide +kernel
theorem dX10_ticks_63 : decode cX10_ticks 63 = .ok (.iadd, 1) := by decide +kernel
theorem dX10_ticks_64 : decode cX10_ticks 64 = .ok (.istore_n 1, 1) := by decide +kernel
theorem dX10_ticks_65 : decode cX10_ticks 65 = .ok (.aload_n 0, 1) := by decide +kernel
theorem dX10_ticks_66 : decode cX10_ticks 66 = .ok (.iload_n 2, 1) := by decide +kernel
theorem dX10_ticks_67 : decode cX10_ticks 67 = .ok (.invokevirtual 151, 3) := by decide +kernel
theorem dX10_ticks_70 : decode cX10_ticks 70 = .ok (.ifCond .ne 21, 3) := by decide +kernel
theorem dX10_ticks_73 : decode cX10_ticks 73 = .ok (.aload_n 0, 1) := by decide +kernel
theorem dX10_ticks_74 : decode cX10_ticks 74 = .ok (.getfield 7, 3) := by decide +kernel
theorem dX10_ticks_77 : decode cX10_ticks 77 = .ok (.bipush 48, 2) := by decide +kernel
theorem dX10_ticks_79 : decode cX10_ticks 79 = .ok (.aload_n 0, 1) := by decide +kernel
theorem dX10_ticks_80 : decode cX10_ticks 80 = .ok (.iload_n 2, 1) := by decide +kernel
theorem dX10_ticks_81 : decode cX10_ticks 81 = .ok (.iconst 0, 1) := by decide +kernel
theorem dX10_ticks_82 : decode cX10_ticks 82 = .ok (.invokevirtual 58, 3) := by decide +kernel
theorem dX10_ticks_85 : decode cX10_ticks 85 = .ok (.iadd, 1) := by decide +kernel
theorem dX10_ticks_86 : decode cX10_ticks 86 = .ok (.dup2, 1) := by decide +kernel
theorem dX10_ticks_87 : decode cX10_ticks 87 = .ok (.iaload, 1) := by decide +kernel
theorem dX10_ticks_88 : decode cX10_ticks 88 = .ok (.iconst 1, 1) := by decide +kernel
theorem dX10_ticks_89 : decode cX10_ticks 89 = .ok (.iadd, 1) := by decide +kernel
theorem dX10_ticks_90 : decode cX10_ticks 90 = .ok (.iastore, 1) := by decide +kernel
theorem dX10_ticks_91 : decode cX10_ticks 91 = .ok (.iinc 2 1, 3) := by decide +kernel
theorem dX10_ticks_94 : decode cX10_ticks 94 = .ok (.goto (-56), 3) := by decide +kernel
theorem dX10_ticks_97 : decode cX10_ticks 97 = .ok (.iload_n 1, 1) := by decide +kernel
theorem dX10_ticks_98 : decode cX10_ticks 98 = .ok (.ireturn, 1) := by decide +kernel
theorem dX10_advance_0 : decode cX10_advance 0 = .ok (.aload_n 0, 1) := by decide +kernel
theorem dX10_advance_1 : decode cX10_advance 1 = .ok (.iconst 0, 1) := by decide +kernel
theorem dX10_advance_2 : decode cX10_advance 2 = .ok (.putfield 51, 3) := by decide +kernel
theorem dX10_advance_5 : decode cX10_advance 5 = .ok (.iload_n 1, 1) := by decide +kernel
theorem dX10_advance_6 : decode cX10_advance 6 = .ok (.iconst 1, 1) := by decide +kernel
theorem dX10_advance_7 : decode cX10_advance 7 = .ok (.bipush 30, 2) := by decide +kernel
theorem dX10_advance_9 : decode cX10_advance 9 = .ok (.invokestatic 54, 3) := by decide +kernel
theorem dX10_advance_12 : decode cX10_advance 12 = .ok (.ifCond .ne 9, 3) := by decide +kernel
theorem dX10_advance_15 : decode cX10_advance 15 = .ok (.aload_n 0, 1) := by decide +kernel
theorem dX10_advance_16 : decode cX10_advance 16 = .ok (.iconst 1, 1) := by decide +kernel
theorem dX10_advance_17 : decode cX10_advance 17 = .ok (.invokevirtual 164, 3) := by decide +kernel
theorem dX10_advance_20 : decode cX10_advance 20 = .ok (.ireturn, 1) := by decide +kernel
theorem dX10_advance_21 : decode cX10_advance 21 = .ok (.aload_n 0, 1) := by decide +kernel
theorem dX10_advance_22 : decode cX10_advance 22 = .ok (.getfield 7, 3) := by decide +kernel
theorem dX10_advance_25 : decode cX10_advance 25 = .ok (.iconst 0, 1) := by decide +kernel
theorem dX10_advance_26 : decode cX10_advance 26 = .ok (.iaload, 1) := by decide +kernel
theorem dX10_advance_27 : decode cX10_advance 27 = .ok (.iload_n 1, 1) := by decide +kernel
theorem dX10_advance_28 : decode cX10_advance 28 = .ok (.iadd, 1) := by decide +kernel
theorem dX10_advance_29 : decode cX10_advance 29 = .ok (.sipush 1000, 3) := by decide +kernel
theorem dX10_advance_32 : decode cX10_advance 32 = .ok (.if_icmp .le 9, 3) := by decide +kernel
theorem dX10_advance_35 : decode cX10_advance 35 = .ok (.aload_n 0, 1) := by decide +kernel
theorem dX10_advance_36 : decode cX10_advance 36 = .ok (.iconst 2, 1) := by decide +kernel
theorem dX10_advance_37 : decode cX10_advance 37 = .ok (.invokevirtual 164, 3) := by decide +kernel
theorem dX10_advance_40 : decode cX10_advance 40 = .ok (.ireturn, 1) := by decide +kernel
theorem dX10_advance_41 : decode cX10_advance 41 = .ok (.iconst 0, 1) := by decide +kernel
theorem dX10_advance_42 : decode cX10_advance 42 = .ok (.istore_n 2, 1) := by decide +kernel
theorem dX10_advance_43 : decode cX10_advance 43 = .ok (.iconst 0, 1) := by decide +kernel
theorem dX10_advance_44 : decode cX10_advance 44 = .ok (.istore_n 3, 1) := by decide +kernel
theorem dX10_advance_45 : decode cX10_advance 45 = .ok (.iload_n 3, 1) := by decide +kernel
theorem dX10_advance_46 : decode cX10_advance 46 = .ok (.iload_n 1, 1) := by decide +kernel
theorem dX10_advance_47 : decode cX10_advance 47 = .ok (.if_icmp .ge 16, 3) := by decide +kernel
theorem dX10_advance_50 : decode cX10_advance 50 = .ok (.iload_n 2, 1) := by decide +kernel
theorem dX10_advance_51 : decode cX10_advance 51 = .ok (.aload_n 0, 1) := by decide +kernel
theorem dX10_advance_52 : decode cX10_advance 52 = .ok (.invokevirtual 247, 3) := by decide +kernel
theorem dX10_advance_55 : decode cX10_advance 55 = .ok (.iadd, 1) := by decide +kernel
theorem dX10_advance_56 : decode cX10_advance 56 = .ok (.istore_n 2, 1) := by decide +kernel
theorem dX10_advance_57 : decode cX10_advance 57 = .ok (.iinc 3 1, 3) := by decide +kernel
theorem dX10_advance_60 : decode cX10_advance 60 = .ok (.goto (-15), 3) := by decide +kernel
theorem dX10_advance_63 : decode cX10_advance 63 = .ok (.iload_n 2, 1) := by decide +kernel
theorem dX10_advance_64 : decode cX10_advance 64 = .ok (.ireturn, 1) := by decide +kernel
theorem dX10_statistic_0 : decode cX10_statistic 0 = .ok (.aload_n 0, 1) := by decide +kernel
theorem dX10_statistic_1 : decode cX10_statistic 1 = .ok (.iconst 0, 1) := by decide +kernel
theorem dX10_statistic_2 : decode cX10_statistic 2 = .ok (.putfield 51, 3) := by decide +kernel
theorem dX10_statistic_5 : decode cX10_statistic 5 = .ok (.aload_n 0, 1) := by decide +kernel
theorem dX10_statistic_6 : decode cX10_statistic 6 = .ok (.iload_n 1, 1) := by decide +kernel
theorem dX10_statistic_7 : decode cX10_statistic 7 = .ok (.invokevirtual 173, 3) := by decide +kernel
theorem dX10_statistic_10 : decode cX10_statistic 10 = .ok (.ifCond .ne 9, 3) := by decide +kernel
theorem dX10_statistic_13 : decode cX10_statistic 13 = .ok (.aload_n 0, 1) := by decide +kernel
theorem dX10_statistic_14 : decode cX10_statistic 14 = .ok (.iconst 1, 1) := by decide +kernel
theorem dX10_statistic_15 : decode cX10_statistic 15 = .ok (.invokevirtual 164, 3) := by decide +kernel
theorem dX10_statistic_18 : decode cX10_statistic 18 = .ok (.ireturn, 1) := by decide +kernel
theorem dX10_statistic_19 : decode cX10_statistic 19 = .ok (.iload_n 2, 1) := by decide +kernel
theorem dX10_statistic_20 : decode cX10_statistic 20 = .ok (.iconst 0, 1) := by decide +kernel
theorem dX10_statistic_21 : decode cX10_statistic 21 = .ok (.iconst 4, 1) := by decide +kernel
theorem dX10_statistic_22 : decode cX10_statistic 22 = .ok (.invokestatic 54, 3) := by decide +kernel
theorem dX10_statistic_25 : decode cX10_statistic 25 = .ok (.ifCond .eq 14, 3) := by decide +kernel
theorem dX10_statistic_28 : decode cX10_statistic 28 = .ok (.aload_n 0, 1) := by decide +kernel
theorem dX10_statistic_29 : decode cX10_statistic 29 = .ok (.iload_n 1, 1) := by decide +kernel
theorem dX10_statistic_30 : decode cX10_statistic 30 = .ok (.iconst 5, 1) := by decide +kernel
theorem dX10_statistic_31 : decode cX10_statistic 31 = .ok (.iload_n 2, 1) := by decide +kernel
theorem dX10_statistic_32 : decode cX10_statistic 32 = .ok (.iadd, 1) := by decide +kernel
theorem dX10_statistic_33 : decode cX10_statistic 33 = .ok (.invokevirtual 58, 3) := by decide +kernel
theorem dX10_statistic_36 : decode cX10_statistic 36 = .ok (.goto 8, 3) := by decide +kernel
theorem dX10_statistic_39 : decode cX10_statistic 39 = .ok (.aload_n 0, 1) := by decide +kernel
theorem dX10_statistic_40 : decode cX10_statistic 40 = .ok (.iconst 2, 1) := by decide +kernel
theorem dX10_statistic_41 : decode cX10_statistic 41 = .ok (.invokevirtual 164, 3) := by decide +kernel
theorem dX10_statistic_44 : decode cX10_statistic 44 = .ok (.ireturn, 1) := by decide +kernel
theorem dX10_active_0 : decode cX10_active 0 = .ok (.aload_n 0, 1) := by decide +kernel
theorem dX10_active_1 : decode cX10_active 1 = .ok (.iload_n 1, 1) := by decide +kernel
theorem dX10_active_2 : decode cX10_active 2 = .ok (.bipush 10, 2) := by decide +kernel
theorem dX10_active_4 : decode cX10_active 4 = .ok (.invokevirtual 58, 3) := by decide +kernel
theorem dX10_active_7 : decode cX10_active 7 = .ok (.aload_n 0, 1) := by decide +kernel
theorem dX10_active_8 : decode cX10_active 8 = .ok (.iload_n 1, 1) := by decide +kernel
theorem dX10_active_9 : decode cX10_active 9 = .ok (.bipush 7, 2) := by decide +kernel
theorem dX10_active_11 : decode cX10_active 11 = .ok (.invokevirtual 58, 3) := by decide +kernel
theorem dX10_active_14 : decode cX10_active 14 = .ok (.isub, 1) := by decide +kernel
theorem dX10_active_15 : decode cX10_active 15 = .ok (.i2f, 1) := by decide +kernel
theorem dX10_active_16 : decode cX10_active 16 = .ok (.aload_n 0, 1) := by decide +kernel
theorem dX10_active_17 : decode cX10_active 17 = .ok (.iload_n 1, 1) := by decide +kernel
theorem dX10_active_18 : decode cX10_active 18 = .ok (.bipush 10, 2) := by decide +kernel
theorem dX10_active_20 : decode cX10_active 20 = .ok (.invokevirtual 58, 3) := by decide +kernel
theorem dX10_active_23 : decode cX10_active 23 = .ok (.i2f, 1) := by decide +kernel
theorem dX10_active_24 : decode cX10_active 24 = .ok (.fdiv, 1) := by decide +kernel
theorem dX10_active_25 : decode cX10_active 25 = .ok (.freturn, 1) := by decide +kernel
theorem dX10_activeRefusal_0 : decode cX10_activeRefusal 0 = .ok (.aload_n 0, 1) := by decide +kernel
theorem dX10_activeRefusal_1 : decode cX10_activeRefusal 1 = .ok (.aload_n 0, 1) := by decide +kernel
theorem dX10_activeRefusal_2 : decode cX10_activeRefusal 2 = .ok (.iload_n 1, 1) := by decide +kernel
theorem dX10_activeRefusal_3 : decode cX10_activeRefusal 3 = .ok (.invokevirtual 173, 3) := by decide +kernel
theorem dX10_activeRefusal_6 : decode cX10_activeRefusal 6 = .ok (.ifCond .ne 7, 3) := by decide +kernel
theorem dX10_activeRefusal_9 : decode cX10_activeRefusal 9 = .ok (.iconst 1, 1) := by decide +kernel
theorem dX10_activeRefusal_10 : decode cX10_activeRefusal 10 = .ok (.goto 18, 3) := by decide +kernel
theorem dX10_activeRefusal_13 : decode cX10_activeRefusal 13 = .ok (.aload_n 0, 1) := by decide +kernel
theorem dX10_activeRefusal_14 : decode cX10_activeRefusal 14 = .ok (.iload_n 1, 1) := by decide +kernel
theorem dX10_activeRefusal_15 : decode cX10_activeRefusal 15 = .ok (.bipush 10, 2) := by decide +kernel
theorem dX10_activeRefusal_17 : decode cX10_activeRefusal 17 = .ok (.invokevirtual 58, 3) := by decide +kernel
theorem dX10_activeRefusal_20 : decode cX10_activeRefusal 20 = .ok (.ifCond .ne 7, 3) := by decide +kernel
theorem dX10_activeRefusal_23 : decode cX10_activeRefusal 23 = .ok (.iconst 2, 1) := by decide +kernel
theorem dX10_activeRefusal_24 : decode cX10_activeRefusal 24 = .ok (.goto 4, 3) := by decide +kernel
theorem dX10_activeRefusal_27 : decode cX10_activeRefusal 27 = .ok (.iconst 0, 1) := by decide +kernel
theorem dX10_activeRefusal_28 : decode cX10_activeRefusal 28 = .ok (.putfield 51, 3) := by decide +kernel
theorem dX10_activeRefusal_31 : decode cX10_activeRefusal 31 = .ok (.aload_n 0, 1) := by decide +kernel
theorem dX10_activeRefusal_32 : decode cX10_activeRefusal 32 = .ok (.getfield 51, 3) := by decide +kernel
theorem dX10_activeRefusal_35 : decode cX10_activeRefusal 35 = .ok (.ireturn, 1) := by decide +kernel
theorem dX10_activity_0 : decode cX10_activity 0 = .ok (.aload_n 0, 1) := by decide +kernel
theorem dX10_activity_1 : decode cX10_activity 1 = .ok (.iload_n 1, 1) := by decide +kernel
theorem dX10_activity_2 : decode cX10_activity 2 = .ok (.invokevirtual 251, 3) := by decide +kernel
theorem dX10_activity_5 : decode cX10_activity 5 = .ok (.ifCond .le 7, 3) := by decide +kernel
theorem dX10_activity_8 : decode cX10_activity 8 = .ok (.fconst 0, 1) := by decide +kernel
theorem dX10_activity_9 : decode cX10_activity 9 = .ok (.goto 8, 3) := by decide +kernel
theorem dX10_activity_12 : decode cX10_activity 12 = .ok (.aload_n 0, 1) := by decide +kernel
theorem dX10_activity_13 : decode cX10_activity 13 = .ok (.iload_n 1, 1) := by decide +kernel
theorem dX10_activity_14 : decode cX10_activity 14 = .ok (.invokevirtual 254, 3) := by decide +kernel
theorem dX10_activity_17 : decode cX10_activity 17 = .ok (.freturn, 1) := by decide +kernel
theorem dX10_activityBits_0 : decode cX10_activityBits 0 = .ok (.aload_n 0, 1) := by decide +kernel
theorem dX10_activityBits_1 : decode cX10_activityBits 1 = .ok (.iload_n 1, 1) := by decide +kernel
theorem dX10_activityBits_2 : decode cX10_activityBits 2 = .ok (.invokevirtual 251, 3) := by decide +kernel
theorem dX10_activityBits_5 : decode cX10_activityBits 5 = .ok (.ifCond .le 7, 3) := by decide +kernel
theorem dX10_activityBits_8 : decode cX10_activityBits 8 = .ok (.iconst 0, 1) := by decide +kernel
theorem dX10_activityBits_9 : decode cX10_activityBits 9 = .ok (.goto 11, 3) := by decide +kernel
theorem dX10_activityBits_12 : decode cX10_activityBits 12 = .ok (.aload_n 0, 1) := by decide +kernel
theorem dX10_activityBits_13 : decode cX10_activityBits 13 = .ok (.iload_n 1, 1) := by decide +kernel
theorem dX10_activityBits_14 : decode cX10_activityBits 14 = .ok (.invokevirtual 254, 3) := by decide +kernel
theorem dX10_activityBits_17 : decode cX10_activityBits 17 = .ok (.invokestatic 258, 3) := by decide +kernel
theorem dX10_activityBits_20 : decode cX10_activityBits 20 = .ok (.ireturn, 1) := by decide +kernel
theorem dX10_averageDelay_0 : decode cX10_averageDelay 0 = .ok (.iconst 0, 1) := by decide +kernel
theorem dX10_averageDelay_1 : decode cX10_averageDelay 1 = .ok (.istore_n 1, 1) := by decide +kernel
theorem dX10_averageDelay_2 : decode cX10_averageDelay 2 = .ok (.iconst 0, 1) := by decide +kernel
theorem dX10_averageDelay_3 : decode cX10_averageDelay 3 = .ok (.istore_n 2, 1) := by decide +kernel
theorem dX10_averageDelay_4 : decode cX10_averageDelay 4 = .ok (.iconst 0, 1) := by decide +kernel
theorem dX10_averageDelay_5 : decode cX10_averageDelay 5 = .ok (.istore_n 3, 1) := by decide +kernel
theorem dX10_averageDelay_6 : decode cX10_averageDelay 6 = .ok (.iload_n 3, 1) := by decide +kernel
theorem dX10_averageDelay_7 : decode cX10_averageDelay 7 = .ok (.aload_n 0, 1) := by decide +kernel
theorem dX10_averageDelay_8 : decode cX10_averageDelay 8 = .ok (.getfield 7, 3) := by decide +kernel
theorem dX10_averageDelay_11 : decode cX10_averageDelay 11 = .ok (.bipush 7, 2) := by decide +kernel
theorem dX10_averageDelay_13 : decode cX10_averageDelay 13 = .ok (.iaload, 1) := by decide +kernel
theorem dX10_averageDelay_14 : decode cX10_averageDelay 14 = .ok (.if_icmp .ge 49, 3) := by decide +kernel
theorem dX10_averageDelay_17 : decode cX10_averageDelay 17 = .ok (.aload_n 0, 1) := by decide +kernel
theorem dX10_averageDelay_18 : decode cX10_averageDelay 18 = .ok (.iload_n 3, 1) := by decide +kernel
theorem dX10_averageDelay_19 : decode cX10_averageDelay 19 = .ok (.iconst 4, 1) := by decide +kernel
theorem dX10_averageDelay_20 : decode cX10_averageDelay 20 = .ok (.invokevirtual 209, 3) := by decide +kernel
theorem dX10_averageDelay_23 : decode cX10_averageDelay 23 = .ok (.iconst 2, 1) := by decide +kernel
theorem dX10_averageDelay_24 : decode cX10_averageDelay 24 = .ok (.if_icmp .ne 33, 3) := by decide +kernel
theorem dX10_averageDelay_27 : decode cX10_averageDelay 27 = .ok (.iload_n 1, 1) := by decide +kernel
theorem dX10_averageDelay_28 : decode cX10_averageDelay 28 = .ok (.aload_n 0, 1) := by decide +kernel
theorem dX10_averageDelay_29 : decode cX10_averageDelay 29 = .ok (.iload_n 3, 1) := by decide +kernel
theorem dX10_averageDelay_30 : decode cX10_averageDelay 30 = .ok (.bipush 7, 2) := by decide +kernel
theorem dX10_averageDelay_32 : decode cX10_averageDelay 32 = .ok (.invokevirtual 209, 3) := by decide +kernel
theorem dX10_averageDelay_35 : decode cX10_averageDelay 35 = .ok (.aload_n 0, 1) := by decide +kernel
theorem dX10_averageDelay_36 : decode cX10_averageDelay 36 = .ok (.iload_n 3, 1) := by decide +kernel
theorem dX10_averageDelay_37 : decode cX10_averageDelay 37 = .ok (.iconst 2, 1) := by decide +kernel
theorem dX10_averageDelay_38 : decode cX10_averageDelay 38 = .ok (.invokevirtual 209, 3) := by decide +kernel
theorem dX10_averageDelay_41 : decode cX10_averageDelay 41 = .ok (.aload_n 0, 1) := by decide +kernel
theorem dX10_averageDelay_42 : decode cX10_averageDelay 42 = .ok (.iload_n 3, 1) := by decide +kernel
theorem dX10_averageDelay_43 : decode cX10_averageDelay 43 = .ok (.bipush 8, 2) := by decide +kernel
theorem dX10_averageDelay_45 : decode cX10_averageDelay 45 = .ok (.invokevirtual 209, 3) := by decide +kernel
theorem dX10_averageDelay_48 : decode cX10_averageDelay 48 = .ok (.invokestatic 212, 3) := by decide +kernel
theorem dX10_averageDelay_51 : decode cX10_averageDelay 51 = .ok (.isub, 1) := by decide +kernel
theorem dX10_averageDelay_52 : decode cX10_averageDelay 52 = .ok (.iadd, 1) := by decide +kernel
theorem dX10_averageDelay_53 : decode cX10_averageDelay 53 = .ok (.istore_n 1, 1) := by decide +kernel
theorem dX10_averageDelay_54 : decode cX10_averageDelay 54 = .ok (.iinc 2 1, 3) := by decide +kernel
theorem dX10_averageDelay_57 : decode cX10_averageDelay 57 = .ok (.iinc 3 1, 3) := by decide +kernel
theorem dX10_averageDelay_60 : decode cX10_averageDelay 60 = .ok (.goto (-54), 3) := by decide +kernel
theorem dX10_averageDelay_63 : decode cX10_averageDelay 63 = .ok (.aload_n 0, 1) := by decide +kernel
theorem dX10_averageDelay_64 : decode cX10_averageDelay 64 = .ok (.iload_n 2, 1) := by decide +kernel
theorem dX10_averageDelay_65 : decode cX10_averageDelay 65 = .ok (.ifCond .ne 7, 3) := by decide +kernel
theorem dX10_averageDelay_68 : decode cX10_averageDelay 68 = .ok (.iconst 1, 1) := by decide +kernel
theorem dX10_averageDelay_69 : decode cX10_averageDelay 69 = .ok (.goto 4, 3) := by decide +kernel
theorem dX10_averageDelay_72 : decode cX10_averageDelay 72 = .ok (.iconst 0, 1) := by decide +kernel
theorem dX10_averageDelay_73 : decode cX10_averageDelay 73 = .ok (.putfield 51, 3) := by decide +kernel
theorem dX10_averageDelay_76 : decode cX10_averageDelay 76 = .ok (.iload_n 2, 1) := by decide +kernel
theorem dX10_averageDelay_77 : decode cX10_averageDelay 77 = .ok (.ifCond .ne 7, 3) := by decide +kernel
theorem dX10_averageDelay_80 : decode cX10_averageDelay 80 = .ok (.dconst 0, 1) := by decide +kernel
theorem dX10_averageDelay_81 : decode cX10_averageDelay 81 = .ok (.goto 8, 3) := by decide +kernel
theorem dX10_averageDelay_84 : decode cX10_averageDelay 84 = .ok (.iload_n 1, 1) := by decide +kernel
theorem dX10_averageDelay_85 : decode cX10_averageDelay 85 = .ok (.i2d, 1) := by decide +kernel
theorem dX10_averageDelay_86 : decode cX10_averageDelay 86 = .ok (.iload_n 2, 1) := by decide +kernel
theorem dX10_averageDelay_87 : decode cX10_averageDelay 87 = .ok (.i2d, 1) := by decide +kernel
theorem dX10_averageDelay_88 : decode cX10_averageDelay 88 = .ok (.ddiv, 1) := by decide +kernel
theorem dX10_averageDelay_89 : decode cX10_averageDelay 89 = .ok (.dreturn, 1) := by decide +kernel
theorem dX10_visits_0 : decode cX10_visits 0 = .ok (.aload_n 0, 1) := by decide +kernel
theorem dX10_visits_1 : decode cX10_visits 1 = .ok (.iconst 0, 1) := by decide +kernel
theorem dX10_visits_2 : decode cX10_visits 2 = .ok (.putfield 51, 3) := by decide +kernel
theorem dX10_visits_5 : decode cX10_visits 5 = .ok (.iload_n 1, 1) := by decide +kernel
theorem dX10_visits_6 : decode cX10_visits 6 = .ok (.invokestatic 161, 3) := by decide +kernel
theorem dX10_visits_9 : decode cX10_visits 9 = .ok (.ifCond .eq 15, 3) := by decide +kernel
theorem dX10_visits_12 : decode cX10_visits 12 = .ok (.aload_n 0, 1) := by decide +kernel
theorem dX10_visits_13 : decode cX10_visits 13 = .ok (.getfield 7, 3) := by decide +kernel
theorem dX10_visits_16 : decode cX10_visits 16 = .ok (.bipush 48, 2) := by decide +kernel
theorem dX10_visits_18 : decode cX10_visits 18 = .ok (.iload_n 1, 1) := by decide +kernel
theorem dX10_visits_19 : decode cX10_visits 19 = .ok (.iadd, 1) := by decide +kernel
theorem dX10_visits_20 : decode cX10_visits 20 = .ok (.iaload, 1) := by decide +kernel
theorem dX10_visits_21 : decode cX10_visits 21 = .ok (.goto 8, 3) := by decide +kernel
theorem dX10_visits_24 : decode cX10_visits 24 = .ok (.aload_n 0, 1) := by decide +kernel
theorem dX10_visits_25 : decode cX10_visits 25 = .ok (.iconst 1, 1) := by decide +kernel
theorem dX10_visits_26 : decode cX10_visits 26 = .ok (.invokevirtual 164, 3) := by decide +kernel
theorem dX10_visits_29 : decode cX10_visits 29 = .ok (.ireturn, 1) := by decide +kernel
theorem dX10_busiestCell_0 : decode cX10_busiestCell 0 = .ok (.aload_n 0, 1) := by decide +kernel
theorem dX10_busiestCell_1 : decode cX10_busiestCell 1 = .ok (.iconst 0, 1) := by decide +kernel
theorem dX10_busiestCell_2 : decode cX10_busiestCell 2 = .ok (.putfield 51, 3) := by decide +kernel
theorem dX10_busiestCell_5 : decode cX10_busiestCell 5 = .ok (.iconst 0, 1) := by decide +kernel
theorem dX10_busiestCell_6 : decode cX10_busiestCell 6 = .ok (.istore_n 1, 1) := by decide +kernel
theorem dX10_busiestCell_7 : decode cX10_busiestCell 7 = .ok (.iconst 1, 1) := by decide +kernel
theorem dX10_busiestCell_8 : decode cX10_busiestCell 8 = .ok (.istore_n 2, 1) := by decide +kernel
theorem dX10_busiestCell_9 : decode cX10_busiestCell 9 = .ok (.iload_n 2, 1) := by decide +kernel
theorem dX10_busiestCell_10 : decode cX10_busiestCell 10 = .ok (.bipush 40, 2) := by decide +kernel
theorem dX10_busiestCell_12 : decode cX10_busiestCell 12 = .ok (.if_icmp .ge 36, 3) := by decide +kernel
theorem dX10_busiestCell_15 : decode cX10_busiestCell 15 = .ok (.aload_n 0, 1) := by decide +kernel
theorem dX10_busiestCell_16 : decode cX10_busiestCell 16 = .ok (.getfield 7, 3) := by decide +kernel
theorem dX10_busiestCell_19 : decode cX10_busiestCell 19 = .ok (.bipush 48, 2) := by decide +kernel
theorem dX10_busiestCell_21 : decode cX10_busiestCell 21 = .ok (.iload_n 2, 1) := by decide +kernel
theorem dX10_busiestCell_22 : decode cX10_busiestCell 22 = .ok (.iadd, 1) := by decide +kernel
theorem dX10_busiestCell_23 : decode cX10_busiestCell 23 = .ok (.iaload, 1) := by decide +kernel
theorem dX10_busiestCell_24 : decode cX10_busiestCell 24 = .ok (.aload_n 0, 1) := by decide +kernel
theorem dX10_busiestCell_25 : decode cX10_busiestCell 25 = .ok (.getfield 7, 3) := by decide +kernel
theorem dX10_busiestCell_28 : decode cX10_busiestCell 28 = .ok (.bipush 48, 2) := by decide +kernel
theorem dX10_busiestCell_30 : decode cX10_busiestCell 30 = .ok (.iload_n 1, 1) := by decide +kernel
theorem dX10_busiestCell_31 : decode cX10_busiestCell 31 = .ok (.iadd, 1) := by decide +kernel
theorem dX10_busiestCell_32 : decode cX10_busiestCell 32 = .ok (.iaload, 1) := by decide +kernel
theorem dX10_busiestCell_33 : decode cX10_busiestCell 33 = .ok (.if_icmp .le 7, 3) := by decide +kernel
theorem dX10_busiestCell_36 : decode cX10_busiestCell 36 = .ok (.iload_n 2, 1) := by decide +kernel
theorem dX10_busiestCell_37 : decode cX10_busiestCell 37 = .ok (.goto 4, 3) := by decide +kernel
theorem dX10_busiestCell_40 : decode cX10_busiestCell 40 = .ok (.iload_n 1, 1) := by decide +kernel
theorem dX10_busiestCell_41 : decode cX10_busiestCell 41 = .ok (.istore_n 1, 1) := by decide +kernel
theorem dX10_busiestCell_42 : decode cX10_busiestCell 42 = .ok (.iinc 2 1, 3) := by decide +kernel
theorem dX10_busiestCell_45 : decode cX10_busiestCell 45 = .ok (.goto (-36), 3) := by decide +kernel
theorem dX10_busiestCell_48 : decode cX10_busiestCell 48 = .ok (.iload_n 1, 1) := by decide +kernel
theorem dX10_busiestCell_49 : decode cX10_busiestCell 49 = .ok (.ireturn, 1) := by decide +kernel
theorem dX10_isPlace_0 : decode cX10_isPlace 0 = .ok (.iload_n 0, 1) := by decide +kernel
theorem dX10_isPlace_1 : decode cX10_isPlace 1 = .ok (.iconst 0, 1) := by decide +kernel
theorem dX10_isPlace_2 : decode cX10_isPlace 2 = .ok (.iconst 1, 1) := by decide +kernel
theorem dX10_isPlace_3 : decode cX10_isPlace 3 = .ok (.invokestatic 54, 3) := by decide +kernel
theorem dX10_isPlace_6 : decode cX10_isPlace 6 = .ok (.ifCond .eq 16, 3) := by decide +kernel
theorem dX10_isPlace_9 : decode cX10_isPlace 9 = .ok (.iload_n 1, 1) := by decide +kernel
theorem dX10_isPlace_10 : decode cX10_isPlace 10 = .ok (.iconst 0, 1) := by decide +kernel
theorem dX10_isPlace_11 : decode cX10_isPlace 11 = .ok (.iconst 2, 1) := by decide +kernel
theorem dX10_isPlace_12 : decode cX10_isPlace 12 = .ok (.invokestatic 54, 3) := by decide +kernel
theorem dX10_isPlace_15 : decode cX10_isPlace 15 = .ok (.ifCond .eq 7, 3) := by decide +kernel
theorem dX10_isPlace_18 : decode cX10_isPlace 18 = .ok (.iconst 1, 1) := by decide +kernel
theorem dX10_isPlace_19 : decode cX10_isPlace 19 = .ok (.goto 4, 3) := by decide +kernel
theorem dX10_isPlace_22 : decode cX10_isPlace 22 = .ok (.iconst 0, 1) := by decide +kernel
theorem dX10_isPlace_23 : decode cX10_isPlace 23 = .ok (.ireturn, 1) := by decide +kernel
theorem dX10_sample_0 : decode cX10_sample 0 = .ok (.aload_n 0, 1) := by decide +kernel
theorem dX10_sample_1 : decode cX10_sample 1 = .ok (.iconst 0, 1) := by decide +kernel
theorem dX10_sample_2 : decode cX10_sample 2 = .ok (.putfield 51, 3) := by decide +kernel
theorem dX10_sample_5 : decode cX10_sample 5 = .ok (.iload_n 1, 1) := by decide +kernel
theorem dX10_sample_6 : decode cX10_sample 6 = .ok (.iload_n 2, 1) := by decide +kernel
theorem dX10_sample_7 : decode cX10_sample 7 = .ok (.invokestatic 264, 3) := by decide +kernel
theorem dX10_sample_10 : decode cX10_sample 10 = .ok (.ifCond .eq 11, 3) := by decide +kernel
theorem dX10_sample_13 : decode cX10_sample 13 = .ok (.aload_n 0, 1) := by decide +kernel
theorem dX10_sample_14 : decode cX10_sample 14 = .ok (.iload_n 3, 1) := by decide +kernel
theorem dX10_sample_15 : decode cX10_sample 15 = .ok (.invokevirtual 173, 3) := by decide +kernel
theorem dX10_sample_18 : decode cX10_sample 18 = .ok (.ifCond .ne 9, 3) := by decide +kernel
theorem dX10_sample_21 : decode cX10_sample 21 = .ok (.aload_n 0, 1) := by decide +kernel
theorem dX10_sample_22 : decode cX10_sample 22 = .ok (.iconst 1, 1) := by decide +kernel
theorem dX10_sample_23 : decode cX10_sample 23 = .ok (.invokevirtual 164, 3) := by decide +kernel
theorem dX10_sample_26 : decode cX10_sample 26 = .ok (.ireturn, 1) := by decide +kernel
theorem dX10_sample_27 : decode cX10_sample 27 = .ok (.iload_n 1, 1) := by decide +kernel
theorem dX10_sample_28 : decode cX10_sample 28 = .ok (.ifCond .ne 17, 3) := by decide +kernel
theorem dX10_sample_31 : decode cX10_sample 31 = .ok (.aload_n 0, 1) := by decide +kernel
theorem dX10_sample_32 : decode cX10_sample 32 = .ok (.iload_n 3, 1) := by decide +kernel
theorem dX10_sample_33 : decode cX10_sample 33 = .ok (.invokevirtual 200, 3) := by decide +kernel
theorem dX10_sample_36 : decode cX10_sample 36 = .ok (.ifCond .ne 9, 3) := by decide +kernel
theorem dX10_sample_39 : decode cX10_sample 39 = .ok (.aload_n 0, 1) := by decide +kernel
theorem dX10_sample_40 : decode cX10_sample 40 = .ok (.iconst 2, 1) := by decide +kernel
theorem dX10_sample_41 : decode cX10_sample 41 = .ok (.invokevirtual 164, 3) := by decide +kernel
theorem dX10_sample_44 : decode cX10_sample 44 = .ok (.ireturn, 1) := by decide +kernel
theorem dX10_sample_45 : decode cX10_sample 45 = .ok (.bipush 12, 2) := by decide +kernel
theorem dX10_sample_47 : decode cX10_sample 47 = .ok (.iload_n 1, 1) := by decide +kernel
theorem dX10_sample_48 : decode cX10_sample 48 = .ok (.imul, 1) := by decide +kernel
theorem dX10_sample_49 : decode cX10_sample 49 = .ok (.iconst 4, 1) := by decide +kernel
theorem dX10_sample_50 : decode cX10_sample 50 = .ok (.iload_n 2, 1) := by decide +kernel
theorem dX10_sample_51 : decode cX10_sample 51 = .ok (.imul, 1) := by decide +kernel
theorem dX10_sample_52 : decode cX10_sample 52 = .ok (.iadd, 1) := by decide +kernel
theorem dX10_sample_53 : decode cX10_sample 53 = .ok (.istore 4, 2) := by decide +kernel
theorem dX10_sample_55 : decode cX10_sample 55 = .ok (.aload_n 0, 1) := by decide +kernel
theorem dX10_sample_56 : decode cX10_sample 56 = .ok (.getfield 19, 3) := by decide +kernel
theorem dX10_sample_59 : decode cX10_sample 59 = .ok (.iload 4, 2) := by decide +kernel
theorem dX10_sample_61 : decode cX10_sample 61 = .ok (.iload_n 3, 1) := by decide +kernel
theorem dX10_sample_62 : decode cX10_sample 62 = .ok (.iastore, 1) := by decide +kernel
theorem dX10_sample_63 : decode cX10_sample 63 = .ok (.aload_n 0, 1) := by decide +kernel
theorem dX10_sample_64 : decode cX10_sample 64 = .ok (.getfield 19, 3) := by decide +kernel
theorem dX10_sample_67 : decode cX10_sample 67 = .ok (.iload 4, 2) := by decide +kernel
theorem dX10_sample_69 : decode cX10_sample 69 = .ok (.iconst 1, 1) := by decide +kernel
theorem dX10_sample_70 : decode cX10_sample 70 = .ok (.iadd, 1) := by decide +kernel
theorem dX10_sample_71 : decode cX10_sample 71 = .ok (.aload_n 0, 1) := by decide +kernel
theorem dX10_sample_72 : decode cX10_sample 72 = .ok (.iload_n 3, 1) := by decide +kernel
theorem dX10_sample_73 : decode cX10_sample 73 = .ok (.invokevirtual 151, 3) := by decide +kernel
theorem dX10_sample_76 : decode cX10_sample 76 = .ok (.ifCond .eq 7, 3) := by decide +kernel
theorem dX10_sample_79 : decode cX10_sample 79 = .ok (.iconst (-1), 1) := by decide +kernel
theorem dX10_sample_80 : decode cX10_sample 80 = .ok (.goto 9, 3) := by decide +kernel
theorem dX10_sample_83 : decode cX10_sample 83 = .ok (.aload_n 0, 1) := by decide +kernel
theorem dX10_sample_84 : decode cX10_sample 84 = .ok (.iload_n 3, 1) := by decide +kernel
theorem dX10_sample_85 : decode cX10_sample 85 = .ok (.iconst 0, 1) := by decide +kernel
theorem dX10_sample_86 : decode cX10_sample 86 = .ok (.invokevirtual 58, 3) := by decide +kernel
theorem dX10_sample_89 : decode cX10_sample 89 = .ok (.iastore, 1) := by decide +kernel
theorem dX10_sample_90 : decode cX10_sample 90 = .ok (.aload_n 0, 1) := by decide +kernel
theorem dX10_sample_91 : decode cX10_sample 91 = .ok (.getfield 19, 3) := by decide +kernel
theorem dX10_sample_94 : decode cX10_sample 94 = .ok (.iload 4, 2) := by decide +kernel
theorem dX10_sample_96 : decode cX10_sample 96 = .ok (.iconst 2, 1) := by decide +kernel
theorem dX10_sample_97 : decode cX10_sample 97 = .ok (.iadd, 1) := by decide +kernel
theorem dX10_sample_98 : decode cX10_sample 98 = .ok (.aload_n 0, 1) := by decide +kernel
theorem dX10_sample_99 : decode cX10_sample 99 = .ok (.iload_n 3, 1) := by decide +kernel
theorem dX10_sample_100 : decode cX10_sample 100 = .ok (.iconst 1, 1) := by decide +kernel
theorem dX10_sample_101 : decode cX10_sample 101 = .ok (.invokevirtual 58, 3) := by decide +kernel
theorem dX10_sample_104 : decode cX10_sample 104 = .ok (.iastore, 1) := by decide +kernel
theorem dX10_sample_105 : decode cX10_sample 105 = .ok (.aload_n 0, 1) := by decide +kernel
theorem dX10_sample_106 : decode cX10_sample 106 = .ok (.getfield 19, 3) := by decide +kernel
theorem dX10_sample_109 : decode cX10_sample 109 = .ok (.iload 4, 2) := by decide +kernel
theorem dX10_sample_111 : decode cX10_sample 111 = .ok (.iconst 3, 1) := by decide +kernel
theorem dX10_sample_112 : decode cX10_sample 112 = .ok (.iadd, 1) := by decide +kernel
theorem dX10_sample_113 : decode cX10_sample 113 = .ok (.aload_n 0, 1) := by decide +kernel
theorem dX10_sample_114 : decode cX10_sample 114 = .ok (.getfield 7, 3) := by decide +kernel
theorem dX10_sample_117 : decode cX10_sample 117 = .ok (.iconst 0, 1) := by decide +kernel
theorem dX10_sample_118 : decode cX10_sample 118 = .ok (.iaload, 1) := by decide +kernel
theorem dX10_sample_119 : decode cX10_sample 119 = .ok (.iastore, 1) := by decide +kernel
theorem dX10_sample_120 : decode cX10_sample 120 = .ok (.iconst 0, 1) := by decide +kernel
theorem dX10_sample_121 : decode cX10_sample 121 = .ok (.istore 5, 2) := by decide +kernel
theorem dX10_sample_123 : decode cX10_sample 123 = .ok (.iconst 0, 1) := by decide +kernel
theorem dX10_sample_124 : decode cX10_sample 124 = .ok (.istore 6, 2) := by decide +kernel
theorem dX10_sample_126 : decode cX10_sample 126 = .ok (.iload 6, 2) := by decide +kernel
theorem dX10_sample_128 : decode cX10_sample 128 = .ok (.iconst 3, 1) := by decide +kernel
theorem dX10_sample_129 : decode cX10_sample 129 = .ok (.if_icmp .ge 37, 3) := by decide +kernel
theorem dX10_sample_132 : decode cX10_sample 132 = .ok (.iload 5, 2) := by decide +kernel
theorem dX10_sample_134 : decode cX10_sample 134 = .ok (.aload_n 0, 1) := by decide +kernel
theorem dX10_sample_135 : decode cX10_sample 135 = .ok (.getfield 19, 3) := by decide +kernel
theorem dX10_sample_138 : decode cX10_sample 138 = .ok (.bipush 12, 2) := by decide +kernel
theorem dX10_sample_140 : decode cX10_sample 140 = .ok (.iload_n 1, 1) := by decide +kernel
theorem dX10_sample_141 : decode cX10_sample 141 = .ok (.imul, 1) := by decide +kernel
theorem dX10_sample_142 : decode cX10_sample 142 = .ok (.iconst 4, 1) := by decide +kernel
theorem dX10_sample_143 : decode cX10_sample 143 = .ok (.iload 6, 2) := by decide +kernel
theorem dX10_sample_145 : decode cX10_sample 145 = .ok (.imul, 1) := by decide +kernel
theorem dX10_sample_146 : decode cX10_sample 146 = .ok (.iadd, 1) := by decide +kernel
theorem dX10_sample_147 : decode cX10_sample 147 = .ok (.iaload, 1) := by decide +kernel
theorem dX10_sample_148 : decode cX10_sample 148 = .ok (.iconst (-1), 1) := by decide +kernel
theorem dX10_sample_149 : decode cX10_sample 149 = .ok (.if_icmp .eq 7, 3) := by decide +kernel
theorem dX10_sample_152 : decode cX10_sample 152 = .ok (.iconst 1, 1) := by decide +kernel
theorem dX10_sample_153 : decode cX10_sample 153 = .ok (.goto 4, 3) := by decide +kernel
theorem dX10_sample_156 : decode cX10_sample 156 = .ok (.iconst 0, 1) := by decide +kernel
theorem dX10_sample_157 : decode cX10_sample 157 = .ok (.iadd, 1) := by decide +kernel
theorem dX10_sample_158 : decode cX10_sample 158 = .ok (.istore 5, 2) := by decide +kernel
theorem dX10_sample_160 : decode cX10_sample 160 = .ok (.iinc 6 1, 3) := by decide +kernel
theorem dX10_sample_163 : decode cX10_sample 163 = .ok (.goto (-37), 3) := by decide +kernel
theorem dX10_sample_166 : decode cX10_sample 166 = .ok (.iload 5, 2) := by decide +kernel
theorem dX10_sample_168 : decode cX10_sample 168 = .ok (.ireturn, 1) := by decide +kernel
theorem dX10_sampled_0 : decode cX10_sampled 0 = .ok (.aload_n 0, 1) := by decide +kernel
theorem dX10_sampled_1 : decode cX10_sampled 1 = .ok (.iconst 0, 1) := by decide +kernel
theorem dX10_sampled_2 : decode cX10_sampled 2 = .ok (.putfield 51, 3) := by decide +kernel
theorem dX10_sampled_5 : decode cX10_sampled 5 = .ok (.iload_n 1, 1) := by decide +kernel
theorem dX10_sampled_6 : decode cX10_sampled 6 = .ok (.iload_n 2, 1) := by decide +kernel
theorem dX10_sampled_7 : decode cX10_sampled 7 = .ok (.invokestatic 264, 3) := by decide +kernel
theorem dX10_sampled_10 : decode cX10_sampled 10 = .ok (.ifCond .ne 9, 3) := by decide +kernel
theorem dX10_sampled_13 : decode cX10_sampled 13 = .ok (.aload_n 0, 1) := by decide +kernel
theorem dX10_sampled_14 : decode cX10_sampled 14 = .ok (.iconst 1, 1) := by decide +kernel
theorem dX10_sampled_15 : decode cX10_sampled 15 = .ok (.invokevirtual 164, 3) := by decide +kernel
theorem dX10_sampled_18 : decode cX10_sampled 18 = .ok (.ireturn, 1) := by decide +kernel
theorem dX10_sampled_19 : decode cX10_sampled 19 = .ok (.iload_n 3, 1) := by decide +kernel
theorem dX10_sampled_20 : decode cX10_sampled 20 = .ok (.iconst 0, 1) := by decide +kernel
theorem dX10_sampled_21 : decode cX10_sampled 21 = .ok (.iconst 3, 1) := by decide +kernel
theorem dX10_sampled_22 : decode cX10_sampled 22 = .ok (.invokestatic 54, 3) := by decide +kernel
theorem dX10_sampled_25 : decode cX10_sampled 25 = .ok (.ifCond .ne 9, 3) := by decide +kernel
theorem dX10_sampled_28 : decode cX10_sampled 28 = .ok (.aload_n 0, 1) := by decide +kernel
theorem dX10_sampled_29 : decode cX10_sampled 29 = .ok (.iconst 2, 1) := by decide +kernel
theorem dX10_sampled_30 : decode cX10_sampled 30 = .ok (.invokevirtual 164, 3) := by decide +kernel
theorem dX10_sampled_33 : decode cX10_sampled 33 = .ok (.ireturn, 1) := by decide +kernel
theorem dX10_sampled_34 : decode cX10_sampled 34 = .ok (.bipush 12, 2) := by decide +kernel
theorem dX10_sampled_36 : decode cX10_sampled 36 = .ok (.iload_n 1, 1) := by decide +kernel
theorem dX10_sampled_37 : decode cX10_sampled 37 = .ok (.imul, 1) := by decide +kernel
theorem dX10_sampled_38 : decode cX10_sampled 38 = .ok (.iconst 4, 1) := by decide +kernel
theorem dX10_sampled_39 : decode cX10_sampled 39 = .ok (.iload_n 2, 1) := by decide +kernel
theorem dX10_sampled_40 : decode cX10_sampled 40 = .ok (.imul, 1) := by decide +kernel
theorem dX10_sampled_41 : decode cX10_sampled 41 = .ok (.iadd, 1) := by decide +kernel
theorem dX10_sampled_42 : decode cX10_sampled 42 = .ok (.istore 4, 2) := by decide +kernel
theorem dX10_sampled_44 : decode cX10_sampled 44 = .ok (.aload_n 0, 1) := by decide +kernel
theorem dX10_sampled_45 : decode cX10_sampled 45 = .ok (.getfield 19, 3) := by decide +kernel
theorem dX10_sampled_48 : decode cX10_sampled 48 = .ok (.iload 4, 2) := by decide +kernel
theorem dX10_sampled_50 : decode cX10_sampled 50 = .ok (.iaload, 1) := by decide +kernel
theorem dX10_sampled_51 : decode cX10_sampled 51 = .ok (.iconst (-1), 1) := by decide +kernel
theorem dX10_sampled_52 : decode cX10_sampled 52 = .ok (.if_icmp .ne 11, 3) := by decide +kernel
theorem dX10_sampled_55 : decode cX10_sampled 55 = .ok (.aload_n 0, 1) := by decide +kernel
theorem dX10_sampled_56 : decode cX10_sampled 56 = .ok (.iconst 3, 1) := by decide +kernel
theorem dX10_sampled_57 : decode cX10_sampled 57 = .ok (.invokevirtual 164, 3) := by decide +kernel
theorem dX10_sampled_60 : decode cX10_sampled 60 = .ok (.goto 12, 3) := by decide +kernel
theorem dX10_sampled_63 : decode cX10_sampled 63 = .ok (.aload_n 0, 1) := by decide +kernel
theorem dX10_sampled_64 : decode cX10_sampled 64 = .ok (.getfield 19, 3) := by decide +kernel
theorem dX10_sampled_67 : decode cX10_sampled 67 = .ok (.iload 4, 2) := by decide +kernel
theorem dX10_sampled_69 : decode cX10_sampled 69 = .ok (.iload_n 3, 1) := by decide +kernel
theorem dX10_sampled_70 : decode cX10_sampled 70 = .ok (.iadd, 1) := by decide +kernel
theorem dX10_sampled_71 : decode cX10_sampled 71 = .ok (.iaload, 1) := by decide +kernel
theorem dX10_sampled_72 : decode cX10_sampled 72 = .ok (.ireturn, 1) := by decide +kernel
theorem dX10_append_0 : decode cX10_append 0 = .ok (.aload_n 0, 1) := by decide +kernel
theorem dX10_append_1 : decode cX10_append 1 = .ok (.iconst 0, 1) := by decide +kernel
theorem dX10_append_2 : decode cX10_append 2 = .ok (.putfield 51, 3) := by decide +kernel
theorem dX10_append_5 : decode cX10_append 5 = .ok (.iload_n 1, 1) := by decide +kernel
theorem dX10_append_6 : decode cX10_append 6 = .ok (.bipush 32, 2) := by decide +kernel
theorem dX10_append_8 : decode cX10_append 8 = .ok (.bipush 126, 2) := by decide +kernel
theorem dX10_append_10 : decode cX10_append 10 = .ok (.invokestatic 54, 3) := by decide +kernel
theorem dX10_append_13 : decode cX10_append 13 = .ok (.ifCond .ne 9, 3) := by decide +kernel
theorem dX10_append_16 : decode cX10_append 16 = .ok (.aload_n 0, 1) := by decide +kernel
theorem dX10_append_17 : decode cX10_append 17 = .ok (.iconst 1, 1) := by decide +kernel
theorem dX10_append_18 : decode cX10_append 18 = .ok (.invokevirtual 164, 3) := by decide +kernel
theorem dX10_append_21 : decode cX10_append 21 = .ok (.ireturn, 1) := by decide +kernel
theorem dX10_append_22 : decode cX10_append 22 = .ok (.aload_n 0, 1) := by decide +kernel
theorem dX10_append_23 : decode cX10_append 23 = .ok (.getfield 267, 3) := by decide +kernel
theorem dX10_append_26 : decode cX10_append 26 = .ok (.bipush 40, 2) := by decide +kernel
theorem dX10_append_28 : decode cX10_append 28 = .ok (.if_icmp .ne 9, 3) := by decide +kernel
theorem dX10_append_31 : decode cX10_append 31 = .ok (.aload_n 0, 1) := by decide +kernel
theorem dX10_append_32 : decode cX10_append 32 = .ok (.iconst 2, 1) := by decide +kernel
theorem dX10_append_33 : decode cX10_append 33 = .ok (.invokevirtual 164, 3) := by decide +kernel
theorem dX10_append_36 : decode cX10_append 36 = .ok (.ireturn, 1) := by decide +kernel
theorem dX10_append_37 : decode cX10_append 37 = .ok (.aload_n 0, 1) := by decide +kernel
theorem dX10_append_38 : decode cX10_append 38 = .ok (.getfield 22, 3) := by decide +kernel
theorem dX10_append_41 : decode cX10_append 41 = .ok (.aload_n 0, 1) := by decide +kernel
theorem dX10_append_42 : decode cX10_append 42 = .ok (.getfield 267, 3) := by decide +kernel
theorem dX10_append_45 : decode cX10_append 45 = .ok (.iload_n 1, 1) := by decide +kernel
theorem dX10_append_46 : decode cX10_append 46 = .ok (.iastore, 1) := by decide +kernel
theorem dX10_append_47 : decode cX10_append 47 = .ok (.aload_n 0, 1) := by decide +kernel
theorem dX10_append_48 : decode cX10_append 48 = .ok (.dup, 1) := by decide +kernel
theorem dX10_append_49 : decode cX10_append 49 = .ok (.getfield 267, 3) := by decide +kernel
theorem dX10_append_52 : decode cX10_append 52 = .ok (.iconst 1, 1) := by decide +kernel
theorem dX10_append_53 : decode cX10_append 53 = .ok (.iadd, 1) := by decide +kernel
theorem dX10_append_54 : decode cX10_append 54 = .ok (.putfield 267, 3) := by decide +kernel
theorem dX10_append_57 : decode cX10_append 57 = .ok (.aload_n 0, 1) := by decide +kernel
theorem dX10_append_58 : decode cX10_append 58 = .ok (.getfield 267, 3) := by decide +kernel
theorem dX10_append_61 : decode cX10_append 61 = .ok (.ireturn, 1) := by decide +kernel
theorem dX10_here_0 : decode cX10_here 0 = .ok (.aload_n 0, 1) := by decide +kernel
theorem dX10_here_1 : decode cX10_here 1 = .ok (.getfield 270, 3) := by decide +kernel
theorem dX10_here_4 : decode cX10_here 4 = .ok (.aload_n 0, 1) := by decide +kernel
theorem dX10_here_5 : decode cX10_here 5 = .ok (.getfield 267, 3) := by decide +kernel
theorem dX10_here_8 : decode cX10_here 8 = .ok (.if_icmp .ge 15, 3) := by decide +kernel
theorem dX10_here_11 : decode cX10_here 11 = .ok (.aload_n 0, 1) := by decide +kernel
theorem dX10_here_12 : decode cX10_here 12 = .ok (.getfield 22, 3) := by decide +kernel
theorem dX10_here_15 : decode cX10_here 15 = .ok (.aload_n 0, 1) := by decide +kernel
theorem dX10_here_16 : decode cX10_here 16 = .ok (.getfield 270, 3) := by decide +kernel
theorem dX10_here_19 : decode cX10_here 19 = .ok (.iaload, 1) := by decide +kernel
theorem dX10_here_20 : decode cX10_here 20 = .ok (.goto 4, 3) := by decide +kernel
theorem dX10_here_23 : decode cX10_here 23 = .ok (.iconst (-1), 1) := by decide +kernel
theorem dX10_here_24 : decode cX10_here 24 = .ok (.ireturn, 1) := by decide +kernel
theorem dX10_must_0 : decode cX10_must 0 = .ok (.aload_n 0, 1) := by decide +kernel
theorem dX10_must_1 : decode cX10_must 1 = .ok (.aload_n 0, 1) := by decide +kernel
theorem dX10_must_2 : decode cX10_must 2 = .ok (.getfield 273, 3) := by decide +kernel
theorem dX10_must_5 : decode cX10_must 5 = .ok (.ifCond .eq 15, 3) := by decide +kernel
theorem dX10_must_8 : decode cX10_must 8 = .ok (.aload_n 0, 1) := by decide +kernel
theorem dX10_must_9 : decode cX10_must 9 = .ok (.invokevirtual 277, 3) := by decide +kernel
theorem dX10_must_12 : decode cX10_must 12 = .ok (.iload_n 1, 1) := by decide +kernel
theorem dX10_must_13 : decode cX10_must 13 = .ok (.if_icmp .ne 7, 3) := by decide +kernel
theorem dX10_must_16 : decode cX10_must 16 = .ok (.iconst 1, 1) := by decide +kernel
theorem dX10_must_17 : decode cX10_must 17 = .ok (.goto 4, 3) := by decide +kernel
theorem dX10_must_20 : decode cX10_must 20 = .ok (.iconst 0, 1) := by decide +kernel
theorem dX10_must_21 : decode cX10_must 21 = .ok (.putfield 273, 3) := by decide +kernel
theorem dX10_must_24 : decode cX10_must 24 = .ok (.aload_n 0, 1) := by decide +kernel
theorem dX10_must_25 : decode cX10_must 25 = .ok (.dup, 1) := by decide +kernel
theorem dX10_must_26 : decode cX10_must 26 = .ok (.getfield 270, 3) := by decide +kernel
theorem dX10_must_29 : decode cX10_must 29 = .ok (.aload_n 0, 1) := by decide +kernel
theorem dX10_must_30 : decode cX10_must 30 = .ok (.getfield 273, 3) := by decide +kernel
theorem dX10_must_33 : decode cX10_must 33 = .ok (.ifCond .eq 7, 3) := by decide +kernel
theorem dX10_must_36 : decode cX10_must 36 = .ok (.iconst 1, 1) := by decide +kernel
theorem dX10_must_37 : decode cX10_must 37 = .ok (.goto 4, 3) := by decide +kernel
theorem dX10_must_40 : decode cX10_must 40 = .ok (.iconst 0, 1) := by decide +kernel
theorem dX10_must_41 : decode cX10_must 41 = .ok (.iadd, 1) := by decide +kernel
theorem dX10_must_42 : decode cX10_must 42 = .ok (.putfield 270, 3) := by decide +kernel
theorem dX10_must_45 : decode cX10_must 45 = .ok (.return_, 1) := by decide +kernel
theorem dX10_number_0 : decode cX10_number 0 = .ok (.aload_n 0, 1) := by decide +kernel
theorem dX10_number_1 : decode cX10_number 1 = .ok (.aload_n 0, 1) := by decide +kernel
theorem dX10_number_2 : decode cX10_number 2 = .ok (.getfield 273, 3) := by decide +kernel
theorem dX10_number_5 : decode cX10_number 5 = .ok (.ifCond .eq 21, 3) := by decide +kernel
theorem dX10_number_8 : decode cX10_number 8 = .ok (.aload_n 0, 1) := by decide +kernel
theorem dX10_number_9 : decode cX10_number 9 = .ok (.invokevirtual 277, 3) := by decide +kernel
theorem dX10_number_12 : decode cX10_number 12 = .ok (.bipush 48, 2) := by decide +kernel
theorem dX10_number_14 : decode cX10_number 14 = .ok (.bipush 57, 2) := by decide +kernel
theorem dX10_number_16 : decode cX10_number 16 = .ok (.invokestatic 54, 3) := by decide +kernel
theorem dX10_number_19 : decode cX10_number 19 = .ok (.ifCond .eq 7, 3) := by decide +kernel
theorem dX10_number_22 : decode cX10_number 22 = .ok (.iconst 1, 1) := by decide +kernel
theorem dX10_number_23 : decode cX10_number 23 = .ok (.goto 4, 3) := by decide +kernel
theorem dX10_number_26 : decode cX10_number 26 = .ok (.iconst 0, 1) := by decide +kernel
theorem dX10_number_27 : decode cX10_number 27 = .ok (.putfield 273, 3) := by decide +kernel
theorem dX10_number_30 : decode cX10_number 30 = .ok (.aload_n 0, 1) := by decide +kernel
theorem dX10_number_31 : decode cX10_number 31 = .ok (.getfield 273, 3) := by decide +kernel
theorem dX10_number_34 : decode cX10_number 34 = .ok (.ifCond .ne 5, 3) := by decide +kernel
theorem dX10_number_37 : decode cX10_number 37 = .ok (.iconst 0, 1) := by decide +kernel
theorem dX10_number_38 : decode cX10_number 38 = .ok (.ireturn, 1) := by decide +kernel
theorem dX10_number_39 : decode cX10_number 39 = .ok (.aload_n 0, 1) := by decide +kernel
theorem dX10_number_40 : decode cX10_number 40 = .ok (.invokevirtual 277, 3) := by decide +kernel
theorem dX10_number_43 : decode cX10_number 43 = .ok (.bipush 48, 2) := by decide +kernel
theorem dX10_number_45 : decode cX10_number 45 = .ok (.isub, 1) := by decide +kernel
theorem dX10_number_46 : decode cX10_number 46 = .ok (.istore_n 1, 1) := by decide +kernel
theorem dX10_number_47 : decode cX10_number 47 = .ok (.aload_n 0, 1) := by decide +kernel
theorem dX10_number_48 : decode cX10_number 48 = .ok (.dup, 1) := by decide +kernel
theorem dX10_number_49 : decode cX10_number 49 = .ok (.getfield 270, 3) := by decide +kernel
theorem dX10_number_52 : decode cX10_number 52 = .ok (.iconst 1, 1) := by decide +kernel
theorem dX10_number_53 : decode cX10_number 53 = .ok (.iadd, 1) := by decide +kernel
theorem dX10_number_54 : decode cX10_number 54 = .ok (.putfield 270, 3) := by decide +kernel
theorem dX10_number_57 : decode cX10_number 57 = .ok (.iload_n 1, 1) := by decide +kernel
theorem dX10_number_58 : decode cX10_number 58 = .ok (.iconst 3, 1) := by decide +kernel
theorem dX10_number_59 : decode cX10_number 59 = .ok (.if_icmp .gt 17, 3) := by decide +kernel
theorem dX10_number_62 : decode cX10_number 62 = .ok (.aload_n 0, 1) := by decide +kernel
theorem dX10_number_63 : decode cX10_number 63 = .ok (.invokevirtual 277, 3) := by decide +kernel
theorem dX10_number_66 : decode cX10_number 66 = .ok (.bipush 48, 2) := by decide +kernel
theorem dX10_number_68 : decode cX10_number 68 = .ok (.bipush 57, 2) := by decide +kernel
theorem dX10_number_70 : decode cX10_number 70 = .ok (.invokestatic 54, 3) := by decide +kernel
theorem dX10_number_73 : decode cX10_number 73 = .ok (.ifCond .ne 5, 3) := by decide +kernel
theorem dX10_number_76 : decode cX10_number 76 = .ok (.iload_n 1, 1) := by decide +kernel
theorem dX10_number_77 : decode cX10_number 77 = .ok (.ireturn, 1) := by decide +kernel
theorem dX10_number_78 : decode cX10_number 78 = .ok (.aload_n 0, 1) := by decide +kernel
theorem dX10_number_79 : decode cX10_number 79 = .ok (.dup, 1) := by decide +kernel
theorem dX10_number_80 : decode cX10_number 80 = .ok (.getfield 270, 3) := by decide +kernel
theorem dX10_number_83 : decode cX10_number 83 = .ok (.iconst 1, 1) := by decide +kernel
theorem dX10_number_84 : decode cX10_number 84 = .ok (.iadd, 1) := by decide +kernel
theorem dX10_number_85 : decode cX10_number 85 = .ok (.putfield 270, 3) := by decide +kernel
theorem dX10_number_88 : decode cX10_number 88 = .ok (.bipush 10, 2) := by decide +kernel
theorem dX10_number_90 : decode cX10_number 90 = .ok (.iload_n 1, 1) := by decide +kernel
theorem dX10_number_91 : decode cX10_number 91 = .ok (.imul, 1) := by decide +kernel
theorem dX10_number_92 : decode cX10_number 92 = .ok (.aload_n 0, 1) := by decide +kernel
theorem dX10_number_93 : decode cX10_number 93 = .ok (.getfield 22, 3) := by decide +kernel
theorem dX10_number_96 : decode cX10_number 96 = .ok (.aload_n 0, 1) := by decide +kernel
theorem dX10_number_97 : decode cX10_number 97 = .ok (.getfield 270, 3) := by decide +kernel
theorem dX10_number_100 : decode cX10_number 100 = .ok (.iconst 1, 1) := by decide +kernel
theorem dX10_number_101 : decode cX10_number 101 = .ok (.isub, 1) := by decide +kernel
theorem dX10_number_102 : decode cX10_number 102 = .ok (.iaload, 1) := by decide +kernel
theorem dX10_number_103 : decode cX10_number 103 = .ok (.iadd, 1) := by decide +kernel
theorem dX10_number_104 : decode cX10_number 104 = .ok (.bipush 48, 2) := by decide +kernel
theorem dX10_number_106 : decode cX10_number 106 = .ok (.isub, 1) := by decide +kernel
theorem dX10_number_107 : decode cX10_number 107 = .ok (.ireturn, 1) := by decide +kernel
theorem dX10_entry_0 : decode cX10_entry 0 = .ok (.aload_n 0, 1) := by decide +kernel
theorem dX10_entry_1 : decode cX10_entry 1 = .ok (.invokevirtual 277, 3) := by decide +kernel
theorem dX10_entry_4 : decode cX10_entry 4 = .ok (.istore_n 2, 1) := by decide +kernel
theorem dX10_entry_5 : decode cX10_entry 5 = .ok (.aload_n 0, 1) := by decide +kernel
theorem dX10_entry_6 : decode cX10_entry 6 = .ok (.aload_n 0, 1) := by decide +kernel
theorem dX10_entry_7 : decode cX10_entry 7 = .ok (.getfield 273, 3) := by decide +kernel
theorem dX10_entry_10 : decode cX10_entry 10 = .ok (.ifCond .eq 37, 3) := by decide +kernel
theorem dX10_entry_13 : decode cX10_entry 13 = .ok (.iload_n 2, 1) := by decide +kernel
theorem dX10_entry_14 : decode cX10_entry 14 = .ok (.bipush 119, 2) := by decide +kernel
theorem dX10_entry_16 : decode cX10_entry 16 = .ok (.if_icmp .eq 27, 3) := by decide +kernel
theorem dX10_entry_19 : decode cX10_entry 19 = .ok (.iload_n 2, 1) := by decide +kernel
theorem dX10_entry_20 : decode cX10_entry 20 = .ok (.bipush 99, 2) := by decide +kernel
theorem dX10_entry_22 : decode cX10_entry 22 = .ok (.if_icmp .eq 21, 3) := by decide +kernel
theorem dX10_entry_25 : decode cX10_entry 25 = .ok (.iload_n 2, 1) := by decide +kernel
theorem dX10_entry_26 : decode cX10_entry 26 = .ok (.bipush 102, 2) := by decide +kernel
theorem dX10_entry_28 : decode cX10_entry 28 = .ok (.if_icmp .eq 15, 3) := by decide +kernel
theorem dX10_entry_31 : decode cX10_entry 31 = .ok (.iload_n 2, 1) := by decide +kernel
theorem dX10_entry_32 : decode cX10_entry 32 = .ok (.bipush 108, 2) := by decide +kernel
theorem dX10_entry_34 : decode cX10_entry 34 = .ok (.if_icmp .eq 9, 3) := by decide +kernel
theorem dX10_entry_37 : decode cX10_entry 37 = .ok (.iload_n 2, 1) := by decide +kernel
theorem dX10_entry_38 : decode cX10_entry 38 = .ok (.bipush 114, 2) := by decide +kernel
theorem dX10_entry_40 : decode cX10_entry 40 = .ok (.if_icmp .ne 7, 3) := by decide +kernel
theorem dX10_entry_43 : decode cX10_entry 43 = .ok (.iconst 1, 1) := by decide +kernel
theorem dX10_entry_44 : decode cX10_entry 44 = .ok (.goto 4, 3) := by decide +kernel
theorem dX10_entry_47 : decode cX10_entry 47 = .ok (.iconst 0, 1) := by decide +kernel
theorem dX10_entry_48 : decode cX10_entry 48 = .ok (.putfield 273, 3) := by decide +kernel
theorem dX10_entry_51 : decode cX10_entry 51 = .ok (.aload_n 0, 1) := by decide +kernel
theorem dX10_entry_52 : decode cX10_entry 52 = .ok (.dup, 1) := by decide +kernel
theorem dX10_entry_53 : decode cX10_entry 53 = .ok (.getfield 270, 3) := by decide +kernel
theorem dX10_entry_56 : decode cX10_entry 56 = .ok (.aload_n 0, 1) := by decide +kernel
theorem dX10_entry_57 : decode cX10_entry 57 = .ok (.getfield 273, 3) := by decide +kernel
theorem dX10_entry_60 : decode cX10_entry 60 = .ok (.ifCond .eq 7, 3) := by decide +kernel
theorem dX10_entry_63 : decode cX10_entry 63 = .ok (.iconst 1, 1) := by decide +kernel
theorem dX10_entry_64 : decode cX10_entry 64 = .ok (.goto 4, 3) := by decide +kernel
theorem dX10_entry_67 : decode cX10_entry 67 = .ok (.iconst 0, 1) := by decide +kernel
theorem dX10_entry_68 : decode cX10_entry 68 = .ok (.iadd, 1) := by decide +kernel
theorem dX10_entry_69 : decode cX10_entry 69 = .ok (.putfield 270, 3) := by decide +kernel
theorem dX10_entry_72 : decode cX10_entry 72 = .ok (.aload_n 0, 1) := by decide +kernel
theorem dX10_entry_73 : decode cX10_entry 73 = .ok (.invokevirtual 280, 3) := by decide +kernel
theorem dX10_entry_76 : decode cX10_entry 76 = .ok (.istore_n 3, 1) := by decide +kernel
theorem dX10_entry_77 : decode cX10_entry 77 = .ok (.iload_n 2, 1) := by decide +kernel
theorem dX10_entry_78 : decode cX10_entry 78 = .ok (.bipush 108, 2) := by decide +kernel
theorem dX10_entry_80 : decode cX10_entry 80 = .ok (.if_icmp .ne 9, 3) := by decide +kernel
theorem dX10_entry_83 : decode cX10_entry 83 = .ok (.aload_n 0, 1) := by decide +kernel
theorem dX10_entry_84 : decode cX10_entry 84 = .ok (.bipush 45, 2) := by decide +kernel
theorem dX10_entry_86 : decode cX10_entry 86 = .ok (.invokevirtual 283, 3) := by decide +kernel
theorem dX10_entry_89 : decode cX10_entry 89 = .ok (.iload_n 2, 1) := by decide +kernel
theorem dX10_entry_90 : decode cX10_entry 90 = .ok (.bipush 108, 2) := by decide +kernel
theorem dX10_entry_92 : decode cX10_entry 92 = .ok (.if_icmp .ne 10, 3) := by decide +kernel
theorem dX10_entry_95 : decode cX10_entry 95 = .ok (.aload_n 0, 1) := by decide +kernel
theorem dX10_entry_96 : decode cX10_entry 96 = .ok (.invokevirtual 280, 3) := by decide +kernel
theorem dX10_entry_99 : decode cX10_entry 99 = .ok (.goto 4, 3) := by decide +kernel
theorem dX10_entry_102 : decode cX10_entry 102 = .ok (.iconst 0, 1) := by decide +kernel
theorem dX10_entry_103 : decode cX10_entry 103 = .ok (.istore 4, 2) := by decide +kernel
theorem dX10_entry_105 : decode cX10_entry 105 = .ok (.aload_n 0, 1) := by decide +kernel
theorem dX10_entry_106 : decode cX10_entry 106 = .ok (.bipush 59, 2) := by decide +kernel
theorem dX10_entry_108 : decode cX10_entry 108 = .ok (.invokevirtual 283, 3) := by decide +kernel
theorem dX10_entry_111 : decode cX10_entry 111 = .ok (.iload_n 1, 1) := by decide +kernel
theorem dX10_entry_112 : decode cX10_entry 112 = .ok (.ifCond .ne 5, 3) := by decide +kernel
theorem dX10_entry_115 : decode cX10_entry 115 = .ok (.iconst 1, 1) := by decide +kernel
theorem dX10_entry_116 : decode cX10_entry 116 = .ok (.ireturn, 1) := by decide +kernel
theorem dX10_entry_117 : decode cX10_entry 117 = .ok (.iload_n 2, 1) := by decide +kernel
theorem dX10_entry_118 : decode cX10_entry 118 = .ok (.bipush 108, 2) := by decide +kernel
theorem dX10_entry_120 : decode cX10_entry 120 = .ok (.if_icmp .ne 13, 3) := by decide +kernel
theorem dX10_entry_123 : decode cX10_entry 123 = .ok (.aload_n 0, 1) := by decide +kernel
theorem dX10_entry_124 : decode cX10_entry 124 = .ok (.iload_n 3, 1) := by decide +kernel
theorem dX10_entry_125 : decode cX10_entry 125 = .ok (.iload 4, 2) := by decide +kernel
theorem dX10_entry_127 : decode cX10_entry 127 = .ok (.invokevirtual 286, 3) := by decide +kernel
theorem dX10_entry_130 : decode cX10_entry 130 = .ok (.goto 45, 3) := by decide +kernel
theorem dX10_entry_133 : decode cX10_entry 133 = .ok (.iload_n 2, 1) := by decide +kernel
theorem dX10_entry_134 : decode cX10_entry 134 = .ok (.bipush 114, 2) := by decide +kernel
theorem dX10_entry_136 : decode cX10_entry 136 = .ok (.if_icmp .ne 13, 3) := by decide +kernel
theorem dX10_entry_139 : decode cX10_entry 139 = .ok (.aload_n 0, 1) := by decide +kernel
theorem dX10_entry_140 : decode cX10_entry 140 = .ok (.iload_n 3, 1) := by decide +kernel
theorem dX10_entry_141 : decode cX10_entry 141 = .ok (.bipush 100, 2) := by decide +kernel
theorem dX10_entry_143 : decode cX10_entry 143 = .ok (.invokevirtual 289, 3) := by decide +kernel
theorem dX10_entry_146 : decode cX10_entry 146 = .ok (.goto 29, 3) := by decide +kernel
theorem dX10_entry_149 : decode cX10_entry 149 = .ok (.aload_n 0, 1) := by decide +kernel
theorem dX10_entry_150 : decode cX10_entry 150 = .ok (.iload_n 3, 1) := by decide +kernel
theorem dX10_entry_151 : decode cX10_entry 151 = .ok (.iload_n 2, 1) := by decide +kernel
theorem dX10_entry_152 : decode cX10_entry 152 = .ok (.bipush 119, 2) := by decide +kernel
theorem dX10_entry_154 : decode cX10_entry 154 = .ok (.if_icmp .ne 7, 3) := by decide +kernel
theorem dX10_entry_157 : decode cX10_entry 157 = .ok (.iconst 1, 1) := by decide +kernel
theorem dX10_entry_158 : decode cX10_entry 158 = .ok (.goto 14, 3) := by decide +kernel
theorem dX10_entry_161 : decode cX10_entry 161 = .ok (.iload_n 2, 1) := by decide +kernel
theorem dX10_entry_162 : decode cX10_entry 162 = .ok (.bipush 99, 2) := by decide +kernel
theorem dX10_entry_164 : decode cX10_entry 164 = .ok (.if_icmp .ne 7, 3) := by decide +kernel
theorem dX10_entry_167 : decode cX10_entry 167 = .ok (.iconst 2, 1) := by decide +kernel
theorem dX10_entry_168 : decode cX10_entry 168 = .ok (.goto 4, 3) := by decide +kernel
theorem dX10_entry_171 : decode cX10_entry 171 = .ok (.iconst 0, 1) := by decide +kernel
theorem dX10_entry_172 : decode cX10_entry 172 = .ok (.invokevirtual 292, 3) := by decide +kernel
theorem dX10_entry_175 : decode cX10_entry 175 = .ok (.istore 5, 2) := by decide +kernel
theorem dX10_entry_177 : decode cX10_entry 177 = .ok (.iload 5, 2) := by decide +kernel
theorem dX10_entry_179 : decode cX10_entry 179 = .ok (.ifCond .lt 14, 3) := by decide +kernel
theorem dX10_entry_182 : decode cX10_entry 182 = .ok (.aload_n 0, 1) := by decide +kernel
theorem dX10_entry_183 : decode cX10_entry 183 = .ok (.getfield 51, 3) := by decide +kernel
theorem dX10_entry_186 : decode cX10_entry 186 = .ok (.ifCond .ne 7, 3) := by decide +kernel
theorem dX10_entry_189 : decode cX10_entry 189 = .ok (.iconst 1, 1) := by decide +kernel
theorem dX10_entry_190 : decode cX10_entry 190 = .ok (.goto 4, 3) := by decide +kernel
theorem dX10_entry_193 : decode cX10_entry 193 = .ok (.iconst 0, 1) := by decide +kernel
theorem dX10_entry_194 : decode cX10_entry 194 = .ok (.ireturn, 1) := by decide +kernel
theorem dX10_isText_0 : decode cX10_isText 0 = .ok (.aload_n 0, 1) := by decide +kernel
theorem dX10_isText_1 : decode cX10_isText 1 = .ok (.iconst 0, 1) := by decide +kernel
theorem dX10_isText_2 : decode cX10_isText 2 = .ok (.putfield 270, 3) := by decide +kernel
theorem dX10_isText_5 : decode cX10_isText 5 = .ok (.aload_n 0, 1) := by decide +kernel
theorem dX10_isText_6 : decode cX10_isText 6 = .ok (.aload_n 0, 1) := by decide +kernel
theorem dX10_isText_7 : decode cX10_isText 7 = .ok (.getfield 267, 3) := by decide +kernel
theorem dX10_isText_10 : decode cX10_isText 10 = .ok (.ifCond .le 7, 3) := by decide +kernel
theorem dX10_isText_13 : decode cX10_isText 13 = .ok (.iconst 1, 1) := by decide +kernel
theorem dX10_isText_14 : decode cX10_isText 14 = .ok (.goto 4, 3) := by decide +kernel
theorem dX10_isText_17 : decode cX10_isText 17 = .ok (.iconst 0, 1) := by decide +kernel
theorem dX10_isText_18 : decode cX10_isText 18 = .ok (.putfield 273, 3) := by decide +kernel
theorem dX10_isText_21 : decode cX10_isText 21 = .ok (.aload_n 0, 1) := by decide +kernel
theorem dX10_isText_22 : decode cX10_isText 22 = .ok (.getfield 273, 3) := by decide +kernel
theorem dX10_isText_25 : decode cX10_isText 25 = .ok (.ifCond .eq 41, 3) := by decide +kernel
theorem dX10_isText_28 : decode cX10_isText 28 = .ok (.aload_n 0, 1) := by decide +kernel
theorem dX10_isText_29 : decode cX10_isText 29 = .ok (.getfield 270, 3) := by decide +kernel
theorem dX10_isText_32 : decode cX10_isText 32 = .ok (.aload_n 0, 1) := by decide +kernel
theorem dX10_isText_33 : decode cX10_isText 33 = .ok (.getfield 267, 3) := by decide +kernel
theorem dX10_isText_36 : decode cX10_isText 36 = .ok (.if_icmp .ge 30, 3) := by decide +kernel
theorem dX10_isText_39 : decode cX10_isText 39 = .ok (.aload_n 0, 1) := by decide +kernel
theorem dX10_isText_40 : decode cX10_isText 40 = .ok (.aload_n 0, 1) := by decide +kernel
theorem dX10_isText_41 : decode cX10_isText 41 = .ok (.iconst 0, 1) := by decide +kernel
theorem dX10_isText_42 : decode cX10_isText 42 = .ok (.invokevirtual 295, 3) := by decide +kernel
theorem dX10_isText_45 : decode cX10_isText 45 = .ok (.ifCond .eq 14, 3) := by decide +kernel
theorem dX10_isText_48 : decode cX10_isText 48 = .ok (.aload_n 0, 1) := by decide +kernel
theorem dX10_isText_49 : decode cX10_isText 49 = .ok (.getfield 273, 3) := by decide +kernel
theorem dX10_isText_52 : decode cX10_isText 52 = .ok (.ifCond .eq 7, 3) := by decide +kernel
theorem dX10_isText_55 : decode cX10_isText 55 = .ok (.iconst 1, 1) := by decide +kernel
theorem dX10_isText_56 : decode cX10_isText 56 = .ok (.goto 4, 3) := by decide +kernel
theorem dX10_isText_59 : decode cX10_isText 59 = .ok (.iconst 0, 1) := by decide +kernel
theorem dX10_isText_60 : decode cX10_isText 60 = .ok (.putfield 273, 3) := by decide +kernel
theorem dX10_isText_63 : decode cX10_isText 63 = .ok (.goto (-42), 3) := by decide +kernel
theorem dX10_isText_66 : decode cX10_isText 66 = .ok (.aload_n 0, 1) := by decide +kernel
theorem dX10_isText_67 : decode cX10_isText 67 = .ok (.getfield 273, 3) := by decide +kernel
theorem dX10_isText_70 : decode cX10_isText 70 = .ok (.ireturn, 1) := by decide +kernel
theorem dX10_read_0 : decode cX10_read 0 = .ok (.aload_n 0, 1) := by decide +kernel
theorem dX10_read_1 : decode cX10_read 1 = .ok (.iconst 0, 1) := by decide +kernel
theorem dX10_read_2 : decode cX10_read 2 = .ok (.putfield 51, 3) := by decide +kernel
theorem dX10_read_5 : decode cX10_read 5 = .ok (.aload_n 0, 1) := by decide +kernel
theorem dX10_read_6 : decode cX10_read 6 = .ok (.invokevirtual 299, 3) := by decide +kernel
theorem dX10_read_9 : decode cX10_read 9 = .ok (.ifCond .ne 22, 3) := by decide +kernel
theorem dX10_read_12 : decode cX10_read 12 = .ok (.aload_n 0, 1) := by decide +kernel
theorem dX10_read_13 : decode cX10_read 13 = .ok (.aload_n 0, 1) := by decide +kernel
theorem dX10_read_14 : decode cX10_read 14 = .ok (.getfield 270, 3) := by decide +kernel
theorem dX10_read_17 : decode cX10_read 17 = .ok (.putfield 25, 3) := by decide +kernel
theorem dX10_read_20 : decode cX10_read 20 = .ok (.aload_n 0, 1) := by decide +kernel
theorem dX10_read_21 : decode cX10_read 21 = .ok (.iconst 0, 1) := by decide +kernel
theorem dX10_read_22 : decode cX10_read 22 = .ok (.putfield 267, 3) := by decide +kernel
theorem dX10_read_25 : decode cX10_read 25 = .ok (.aload_n 0, 1) := by decide +kernel
theorem dX10_read_26 : decode cX10_read 26 = .ok (.iconst 1, 1) := by decide +kernel
theorem dX10_read_27 : decode cX10_read 27 = .ok (.invokevirtual 164, 3) := by decide +kernel
theorem dX10_read_30 : decode cX10_read 30 = .ok (.ireturn, 1) := by decide +kernel
theorem dX10_read_31 : decode cX10_read 31 = .ok (.iconst 0, 1) := by decide +kernel
theorem dX10_read_32 : decode cX10_read 32 = .ok (.istore_n 1, 1) := by decide +kernel
theorem dX10_read_33 : decode cX10_read 33 = .ok (.iload_n 1, 1) := by decide +kernel
theorem dX10_read_34 : decode cX10_read 34 = .ok (.sipush 406, 3) := by decide +kernel
theorem dX10_read_37 : decode cX10_read 37 = .ok (.if_icmp .ge 21, 3) := by decide +kernel
theorem dX10_read_40 : decode cX10_read 40 = .ok (.aload_n 0, 1) := by decide +kernel
theorem dX10_read_41 : decode cX10_read 41 = .ok (.getfield 16, 3) := by decide +kernel
theorem dX10_read_44 : decode cX10_read 44 = .ok (.iload_n 1, 1) := by decide +kernel
theorem dX10_read_45 : decode cX10_read 45 = .ok (.aload_n 0, 1) := by decide +kernel
theorem dX10_read_46 : decode cX10_read 46 = .ok (.getfield 7, 3) := by decide +kernel
theorem dX10_read_49 : decode cX10_read 49 = .ok (.iload_n 1, 1) := by decide +kernel
theorem dX10_read_50 : decode cX10_read 50 = .ok (.iaload, 1) := by decide +kernel
theorem dX10_read_51 : decode cX10_read 51 = .ok (.iastore, 1) := by decide +kernel
theorem dX10_read_52 : decode cX10_read 52 = .ok (.iinc 1 1, 3) := by decide +kernel
theorem dX10_read_55 : decode cX10_read 55 = .ok (.goto (-22), 3) := by decide +kernel
theorem dX10_read_58 : decode cX10_read 58 = .ok (.aload_n 0, 1) := by decide +kernel
theorem dX10_read_59 : decode cX10_read 59 = .ok (.iconst 0, 1) := by decide +kernel
theorem dX10_read_60 : decode cX10_read 60 = .ok (.putfield 270, 3) := by decide +kernel
theorem dX10_read_63 : decode cX10_read 63 = .ok (.iconst 0, 1) := by decide +kernel
theorem dX10_read_64 : decode cX10_read 64 = .ok (.istore_n 1, 1) := by decide +kernel
theorem dX10_read_65 : decode cX10_read 65 = .ok (.iconst 1, 1) := by decide +kernel
theorem dX10_read_66 : decode cX10_read 66 = .ok (.istore_n 2, 1) := by decide +kernel
theorem dX10_read_67 : decode cX10_read 67 = .ok (.iload_n 2, 1) := by decide +kernel
theorem dX10_read_68 : decode cX10_read 68 = .ok (.ifCond .eq 26, 3) := by decide +kernel
theorem dX10_read_71 : decode cX10_read 71 = .ok (.aload_n 0, 1) := by decide +kernel
theorem dX10_read_72 : decode cX10_read 72 = .ok (.getfield 270, 3) := by decide +kernel
theorem dX10_read_75 : decode cX10_read 75 = .ok (.aload_n 0, 1) := by decide +kernel
theorem dX10_read_76 : decode cX10_read 76 = .ok (.getfield 267, 3) := by decide +kernel
theorem dX10_read_79 : decode cX10_read 79 = .ok (.if_icmp .ge 15, 3) := by decide +kernel
theorem dX10_read_82 : decode cX10_read 82 = .ok (.aload_n 0, 1) := by decide +kernel
theorem dX10_read_83 : decode cX10_read 83 = .ok (.iconst 1, 1) := by decide +kernel
theorem dX10_read_84 : decode cX10_read 84 = .ok (.invokevirtual 295, 3) := by decide +kernel
theorem dX10_read_87 : decode cX10_read 87 = .ok (.istore_n 2, 1) := by decide +kernel
theorem dX10_read_88 : decode cX10_read 88 = .ok (.iinc 1 1, 3) := by decide +kernel
theorem dX10_read_91 : decode cX10_read 91 = .ok (.goto (-24), 3) := by decide +kernel
theorem dX10_read_94 : decode cX10_read 94 = .ok (.aload_n 0, 1) := by decide +kernel
theorem dX10_read_95 : decode cX10_read 95 = .ok (.iconst 0, 1) := by decide +kernel
theorem dX10_read_96 : decode cX10_read 96 = .ok (.putfield 267, 3) := by decide +kernel
theorem dX10_read_99 : decode cX10_read 99 = .ok (.aload_n 0, 1) := by decide +kernel
theorem dX10_read_100 : decode cX10_read 100 = .ok (.iconst 0, 1) := by decide +kernel
theorem dX10_read_101 : decode cX10_read 101 = .ok (.putfield 51, 3) := by decide +kernel
theorem dX10_read_104 : decode cX10_read 104 = .ok (.iload_n 2, 1) := by decide +kernel
theorem dX10_read_105 : decode cX10_read 105 = .ok (.ifCond .eq 5, 3) := by decide +kernel
theorem dX10_read_108 : decode cX10_read 108 = .ok (.iload_n 1, 1) := by decide +kernel
theorem dX10_read_109 : decode cX10_read 109 = .ok (.ireturn, 1) := by decide +kernel
theorem dX10_read_110 : decode cX10_read 110 = .ok (.iconst 0, 1) := by decide +kernel
theorem dX10_read_111 : decode cX10_read 111 = .ok (.istore_n 3, 1) := by decide +kernel
theorem dX10_read_112 : decode cX10_read 112 = .ok (.iload_n 3, 1) := by decide +kernel
theorem dX10_read_113 : decode cX10_read 113 = .ok (.sipush 406, 3) := by decide +kernel
theorem dX10_read_116 : decode cX10_read 116 = .ok (.if_icmp .ge 21, 3) := by decide +kernel
theorem dX10_read_119 : decode cX10_read 119 = .ok (.aload_n 0, 1) := by decide +kernel
theorem dX10_read_120 : decode cX10_read 120 = .ok (.getfield 7, 3) := by decide +kernel
theorem dX10_read_123 : decode cX10_read 123 = .ok (.iload_n 3, 1) := by decide +kernel
theorem dX10_read_124 : decode cX10_read 124 = .ok (.aload_n 0, 1) := by decide +kernel
theorem dX10_read_125 : decode cX10_read 125 = .ok (.getfield 16, 3) := by decide +kernel
theorem dX10_read_128 : decode cX10_read 128 = .ok (.iload_n 3, 1) := by decide +kernel
theorem dX10_read_129 : decode cX10_read 129 = .ok (.iaload, 1) := by decide +kernel
theorem dX10_read_130 : decode cX10_read 130 = .ok (.iastore, 1) := by decide +kernel
theorem dX10_read_131 : decode cX10_read 131 = .ok (.iinc 3 1, 3) := by decide +kernel
theorem dX10_read_134 : decode cX10_read 134 = .ok (.goto (-22), 3) := by decide +kernel
theorem dX10_read_137 : decode cX10_read 137 = .ok (.aload_n 0, 1) := by decide +kernel
theorem dX10_read_138 : decode cX10_read 138 = .ok (.iconst 2, 1) := by decide +kernel
theorem dX10_read_139 : decode cX10_read 139 = .ok (.invokevirtual 164, 3) := by decide +kernel
theorem dX10_read_142 : decode cX10_read 142 = .ok (.ireturn, 1) := by decide +kernel
theorem dX10_errorPosition_0 : decode cX10_errorPosition 0 = .ok (.aload_n 0, 1) := by decide +kernel
theorem dX10_errorPosition_1 : decode cX10_errorPosition 1 = .ok (.iconst 0, 1) := by decide +kernel
theorem dX10_errorPosition_2 : decode cX10_errorPosition 2 = .ok (.putfield 51, 3) := by decide +kernel
theorem dX10_errorPosition_5 : decode cX10_errorPosition 5 = .ok (.aload_n 0, 1) := by decide +kernel
theorem dX10_errorPosition_6 : decode cX10_errorPosition 6 = .ok (.getfield 25, 3) := by decide +kernel
theorem dX10_errorPosition_9 : decode cX10_errorPosition 9 = .ok (.iconst (-1), 1) := by decide +kernel
theorem dX10_errorPosition_10 : decode cX10_errorPosition 10 = .ok (.if_icmp .ne 11, 3) := by decide +kernel
theorem dX10_errorPosition_13 : decode cX10_errorPosition 13 = .ok (.aload_n 0, 1) := by decide +kernel
theorem dX10_errorPosition_14 : decode cX10_errorPosition 14 = .ok (.iconst 1, 1) := by decide +kernel
theorem dX10_errorPosition_15 : decode cX10_errorPosition 15 = .ok (.invokevirtual 164, 3) := by decide +kernel
theorem dX10_errorPosition_18 : decode cX10_errorPosition 18 = .ok (.goto 7, 3) := by decide +kernel
theorem dX10_errorPosition_21 : decode cX10_errorPosition 21 = .ok (.aload_n 0, 1) := by decide +kernel
theorem dX10_errorPosition_22 : decode cX10_errorPosition 22 = .ok (.getfield 25, 3) := by decide +kernel
theorem dX10_errorPosition_25 : decode cX10_errorPosition 25 = .ok (.ireturn, 1) := by decide +kernel
theorem dX10_save_0 : decode cX10_save 0 = .ok (.aload_n 0, 1) := by decide +kernel
theorem dX10_save_1 : decode cX10_save 1 = .ok (.iconst 0, 1) := by decide +kernel
theorem dX10_save_2 : decode cX10_save 2 = .ok (.putfield 51, 3) := by decide +kernel
theorem dX10_save_5 : decode cX10_save 5 = .ok (.iconst 0, 1) := by decide +kernel
theorem dX10_save_6 : decode cX10_save 6 = .ok (.istore_n 1, 1) := by decide +kernel
theorem dX10_save_7 : decode cX10_save 7 = .ok (.iload_n 1, 1) := by decide +kernel
theorem dX10_save_8 : decode cX10_save 8 = .ok (.sipush 406, 3) := by decide +kernel
theorem dX10_save_11 : decode cX10_save 11 = .ok (.if_icmp .ge 21, 3) := by decide +kernel
theorem dX10_save_14 : decode cX10_save 14 = .ok (.aload_n 0, 1) := by decide +kernel
theorem dX10_save_15 : decode cX10_save 15 = .ok (.getfield 13, 3) := by decide +kernel
theorem dX10_save_18 : decode cX10_save 18 = .ok (.iload_n 1, 1) := by decide +kernel
theorem dX10_save_19 : decode cX10_save 19 = .ok (.aload_n 0, 1) := by decide +kernel
theorem dX10_save_20 : decode cX10_save 20 = .ok (.getfield 7, 3) := by decide +kernel
theorem dX10_save_23 : decode cX10_save 23 = .ok (.iload_n 1, 1) := by decide +kernel
theorem dX10_save_24 : decode cX10_save 24 = .ok (.iaload, 1) := by decide +kernel
theorem dX10_save_25 : decode cX10_save 25 = .ok (.iastore, 1) := by decide +kernel
theorem dX10_save_26 : decode cX10_save 26 = .ok (.iinc 1 1, 3) := by decide +kernel
theorem dX10_save_29 : decode cX10_save 29 = .ok (.goto (-22), 3) := by decide +kernel
theorem dX10_save_32 : decode cX10_save 32 = .ok (.aload_n 0, 1) := by decide +kernel
theorem dX10_save_33 : decode cX10_save 33 = .ok (.iconst 1, 1) := by decide +kernel
theorem dX10_save_34 : decode cX10_save 34 = .ok (.putfield 303, 3) := by decide +kernel
theorem dX10_save_37 : decode cX10_save 37 = .ok (.aload_n 0, 1) := by decide +kernel
theorem dX10_save_38 : decode cX10_save 38 = .ok (.getfield 7, 3) := by decide +kernel
theorem dX10_save_41 : decode cX10_save 41 = .ok (.iconst 0, 1) := by decide +kernel
theorem dX10_save_42 : decode cX10_save 42 = .ok (.iaload, 1) := by decide +kernel
theorem dX10_save_43 : decode cX10_save 43 = .ok (.ireturn, 1) := by decide +kernel
theorem dX10_restore_0 : decode cX10_restore 0 = .ok (.aload_n 0, 1) := by decide +kernel
theorem dX10_restore_1 : decode cX10_restore 1 = .ok (.iconst 0, 1) := by decide +kernel
theorem dX10_restore_2 : decode cX10_restore 2 = .ok (.putfield 51, 3) := by decide +kernel
theorem dX10_restore_5 : decode cX10_restore 5 = .ok (.aload_n 0, 1) := by decide +kernel
theorem dX10_restore_6 : decode cX10_restore 6 = .ok (.getfield 303, 3) := by decide +kernel
theorem dX10_restore_9 : decode cX10_restore 9 = .ok (.ifCond .ne 9, 3) := by decide +kernel
theorem dX10_restore_12 : decode cX10_restore 12 = .ok (.aload_n 0, 1) := by decide +kernel
theorem dX10_restore_13 : decode cX10_restore 13 = .ok (.iconst 1, 1) := by decide +kernel
theorem dX10_restore_14 : decode cX10_restore 14 = .ok (.invokevirtual 164, 3) := by decide +kernel
theorem dX10_restore_17 : decode cX10_restore 17 = .ok (.ireturn, 1) := by decide +kernel
theorem dX10_restore_18 : decode cX10_restore 18 = .ok (.iconst 0, 1) := by decide +kernel
theorem dX10_restore_19 : decode cX10_restore 19 = .ok (.istore_n 1, 1) := by decide +kernel
theorem dX10_restore_20 : decode cX10_restore 20 = .ok (.iload_n 1, 1) := by decide +kernel
theorem dX10_restore_21 : decode cX10_restore 21 = .ok (.sipush 406, 3) := by decide +kernel
theorem dX10_restore_24 : decode cX10_restore 24 = .ok (.if_icmp .ge 21, 3) := by decide +kernel
theorem dX10_restore_27 : decode cX10_restore 27 = .ok (.aload_n 0, 1) := by decide +kernel
theorem dX10_restore_28 : decode cX10_restore 28 = .ok (.getfield 7, 3) := by decide +kernel
theorem dX10_restore_31 : decode cX10_restore 31 = .ok (.iload_n 1, 1) := by decide +kernel
theorem dX10_restore_32 : decode cX10_restore 32 = .ok (.aload_n 0, 1) := by decide +kernel
theorem dX10_restore_33 : decode cX10_restore 33 = .ok (.getfield 13, 3) := by decide +kernel
theorem dX10_restore_36 : decode cX10_restore 36 = .ok (.iload_n 1, 1) := by decide +kernel
theorem dX10_restore_37 : decode cX10_restore 37 = .ok (.iaload, 1) := by decide +kernel
theorem dX10_restore_38 : decode cX10_restore 38 = .ok (.iastore, 1) := by decide +kernel
theorem dX10_restore_39 : decode cX10_restore 39 = .ok (.iinc 1 1, 3) := by decide +kernel
theorem dX10_restore_42 : decode cX10_restore 42 = .ok (.goto (-22), 3) := by decide +kernel
theorem dX10_restore_45 : decode cX10_restore 45 = .ok (.aload_n 0, 1) := by decide +kernel
theorem dX10_restore_46 : decode cX10_restore 46 = .ok (.getfield 7, 3) := by decide +kernel
theorem dX10_restore_49 : decode cX10_restore 49 = .ok (.iconst 0, 1) := by decide +kernel
theorem dX10_restore_50 : decode cX10_restore 50 = .ok (.iaload, 1) := by decide +kernel
theorem dX10_restore_51 : decode cX10_restore 51 = .ok (.ireturn, 1) := by decide +kernel
theorem dL_setCell_0 : decode cL_setCell 0 = .ok (.aload_n 3, 1) := by decide +kernel
theorem dL_setCell_1 : decode cL_setCell 1 = .ok (.iconst 0, 1) := by decide +kernel
theorem dL_setCell_2 : decode cL_setCell 2 = .ok (.aload_n 0, 1) := by decide +kernel
theorem dL_setCell_3 : decode cL_setCell 3 = .ok (.iload_n 1, 1) := by decide +kernel
theorem dL_setCell_4 : decode cL_setCell 4 = .ok (.iload_n 2, 1) := by decide +kernel
theorem dL_setCell_5 : decode cL_setCell 5 = .ok (.invokevirtual 7, 3) := by decide +kernel
theorem dL_setCell_8 : decode cL_setCell 8 = .ok (.i2l, 1) := by decide +kernel
theorem dL_setCell_9 : decode cL_setCell 9 = .ok (.lastore, 1) := by decide +kernel
theorem dL_setCell_10 : decode cL_setCell 10 = .ok (.goto 15, 3) := by decide +kernel
theorem dL_setCell_13 : decode cL_setCell 13 = .ok (.astore 4, 2) := by decide +kernel
theorem dL_setCell_15 : decode cL_setCell 15 = .ok (.iconst 1, 1) := by decide +kernel
theorem dL_setCell_16 : decode cL_setCell 16 = .ok (.ireturn, 1) := by decide +kernel
theorem dL_setCell_17 : decode cL_setCell 17 = .ok (.astore 4, 2) := by decide +kernel
theorem dL_setCell_19 : decode cL_setCell 19 = .ok (.iconst 2, 1) := by decide +kernel
theorem dL_setCell_20 : decode cL_setCell 20 = .ok (.ireturn, 1) := by decide +kernel
theorem dL_setCell_21 : decode cL_setCell 21 = .ok (.astore 4, 2) := by decide +kernel
theorem dL_setCell_23 : decode cL_setCell 23 = .ok (.iconst 3, 1) := by decide +kernel
theorem dL_setCell_24 : decode cL_setCell 24 = .ok (.ireturn, 1) := by decide +kernel
theorem dL_setCell_25 : decode cL_setCell 25 = .ok (.iconst 0, 1) := by decide +kernel
theorem dL_setCell_26 : decode cL_setCell 26 = .ok (.ireturn, 1) := by decide +kernel
theorem dL_cell_0 : decode cL_cell 0 = .ok (.aload_n 2, 1) := by decide +kernel
theorem dL_cell_1 : decode cL_cell 1 = .ok (.iconst 0, 1) := by decide +kernel
theorem dL_cell_2 : decode cL_cell 2 = .ok (.aload_n 0, 1) := by decide +kernel
theorem dL_cell_3 : decode cL_cell 3 = .ok (.iload_n 1, 1) := by decide +kernel
theorem dL_cell_4 : decode cL_cell 4 = .ok (.invokevirtual 19, 3) := by decide +kernel
theorem dL_cell_7 : decode cL_cell 7 = .ok (.i2l, 1) := by decide +kernel
theorem dL_cell_8 : decode cL_cell 8 = .ok (.lastore, 1) := by decide +kernel
theorem dL_cell_9 : decode cL_cell 9 = .ok (.goto 6, 3) := by decide +kernel
theorem dL_cell_12 : decode cL_cell 12 = .ok (.astore_n 3, 1) := by decide +kernel
theorem dL_cell_13 : decode cL_cell 13 = .ok (.iconst 1, 1) := by decide +kernel
theorem dL_cell_14 : decode cL_cell 14 = .ok (.ireturn, 1) := by decide +kernel
theorem dL_cell_15 : decode cL_cell 15 = .ok (.iconst 0, 1) := by decide +kernel
theorem dL_cell_16 : decode cL_cell 16 = .ok (.ireturn, 1) := by decide +kernel
theorem dL_addLift_0 : decode cL_addLift 0 = .ok (.aload_n 3, 1) := by decide +kernel
theorem dL_addLift_1 : decode cL_addLift 1 = .ok (.iconst 0, 1) := by decide +kernel
theorem dL_addLift_2 : decode cL_addLift 2 = .ok (.aload_n 0, 1) := by decide +kernel
theorem dL_addLift_3 : decode cL_addLift 3 = .ok (.iload_n 1, 1) := by decide +kernel
theorem dL_addLift_4 : decode cL_addLift 4 = .ok (.iload_n 2, 1) := by decide +kernel
theorem dL_addLift_5 : decode cL_addLift 5 = .ok (.invokevirtual 23, 3) := by decide +kernel
theorem dL_addLift_8 : decode cL_addLift 8 = .ok (.i2l, 1) := by decide +kernel
theorem dL_addLift_9 : decode cL_addLift 9 = .ok (.lastore, 1) := by decide +kernel
theorem dL_addLift_10 : decode cL_addLift 10 = .ok (.goto 15, 3) := by decide +kernel
theorem dL_addLift_13 : decode cL_addLift 13 = .ok (.astore 4, 2) := by decide +kernel
theorem dL_addLift_15 : decode cL_addLift 15 = .ok (.iconst 1, 1) := by decide +kernel
theorem dL_addLift_16 : decode cL_addLift 16 = .ok (.ireturn, 1) := by decide +kernel
theorem dL_addLift_17 : decode cL_addLift 17 = .ok (.astore 4, 2) := by decide +kernel
theorem dL_addLift_19 : decode cL_addLift 19 = .ok (.iconst 2, 1) := by decide +kernel
theorem dL_addLift_20 : decode cL_addLift 20 = .ok (.ireturn, 1) := by decide +kernel
theorem dL_addLift_21 : decode cL_addLift 21 = .ok (.astore 4, 2) := by decide +kernel
theorem dL_addLift_23 : decode cL_addLift 23 = .ok (.iconst 3, 1) := by decide +kernel
theorem dL_addLift_24 : decode cL_addLift 24 = .ok (.ireturn, 1) := by decide +kernel
theorem dL_addLift_25 : decode cL_addLift 25 = .ok (.iconst 0, 1) := by decide +kernel
theorem dL_addLift_26 : decode cL_addLift 26 = .ok (.ireturn, 1) := by decide +kernel
theorem dL_addRobot_0 : decode cL_addRobot 0 = .ok (.aload_n 3, 1) := by decide +kernel
theorem dL_addRobot_1 : decode cL_addRobot 1 = .ok (.iconst 0, 1) := by decide +kernel
theorem dL_addRobot_2 : decode cL_addRobot 2 = .ok (.aload_n 0, 1) := by decide +kernel
theorem dL_addRobot_3 : decode cL_addRobot 3 = .ok (.iload_n 1, 1) := by decide +kernel
theorem dL_addRobot_4 : decode cL_addRobot 4 = .ok (.iload_n 2, 1) := by decide +kernel
theorem dL_addRobot_5 : decode cL_addRobot 5 = .ok (.invokevirtual 26, 3) := by decide +kernel
theorem dL_addRobot_8 : decode cL_addRobot 8 = .ok (.i2l, 1) := by decide +kernel
theorem dL_addRobot_9 : decode cL_addRobot 9 = .ok (.lastore, 1) := by decide +kernel
theorem dL_addRobot_10 : decode cL_addRobot 10 = .ok (.goto 15, 3) := by decide +kernel
theorem dL_addRobot_13 : decode cL_addRobot 13 = .ok (.astore 4, 2) := by decide +kernel
theorem dL_addRobot_15 : decode cL_addRobot 15 = .ok (.iconst 1, 1) := by decide +kernel
theorem dL_addRobot_16 : decode cL_addRobot 16 = .ok (.ireturn, 1) := by decide +kernel
theorem dL_addRobot_17 : decode cL_addRobot 17 = .ok (.astore 4, 2) := by decide +kernel
theorem dL_addRobot_19 : decode cL_addRobot 19 = .ok (.iconst 2, 1) := by decide +kernel
theorem dL_addRobot_20 : decode cL_addRobot 20 = .ok (.ireturn, 1) := by decide +kernel
theorem dL_addRobot_21 : decode cL_addRobot 21 = .ok (.astore 4, 2) := by decide +kernel
theorem dL_addRobot_23 : decode cL_addRobot 23 = .ok (.iconst 3, 1) := by decide +kernel
theorem dL_addRobot_24 : decode cL_addRobot 24 = .ok (.ireturn, 1) := by decide +kernel
theorem dL_addRobot_25 : decode cL_addRobot 25 = .ok (.iconst 0, 1) := by decide +kernel
theorem dL_addRobot_26 : decode cL_addRobot 26 = .ok (.ireturn, 1) := by decide +kernel
theorem dL_robot_0 : decode cL_robot 0 = .ok (.aload_n 3, 1) := by decide +kernel
theorem dL_robot_1 : decode cL_robot 1 = .ok (.iconst 0, 1) := by decide +kernel
theorem dL_robot_2 : decode cL_robot 2 = .ok (.aload_n 0, 1) := by decide +kernel
theorem dL_robot_3 : decode cL_robot 3 = .ok (.iload_n 1, 1) := by decide +kernel
theorem dL_robot_4 : decode cL_robot 4 = .ok (.iload_n 2, 1) := by decide +kernel
theorem dL_robot_5 : decode cL_robot 5 = .ok (.invokevirtual 29, 3) := by decide +kernel
theorem dL_robot_8 : decode cL_robot 8 = .ok (.i2l, 1) := by decide +kernel
theorem dL_robot_9 : decode cL_robot 9 = .ok (.lastore, 1) := by decide +kernel
theorem dL_robot_10 : decode cL_robot 10 = .ok (.goto 11, 3) := by decide +kernel
theorem dL_robot_13 : decode cL_robot 13 = .ok (.astore 4, 2) := by decide +kernel
theorem dL_robot_15 : decode cL_robot 15 = .ok (.iconst 1, 1) := by decide +kernel
theorem dL_robot_16 : decode cL_robot 16 = .ok (.ireturn, 1) := by decide +kernel
theorem dL_robot_17 : decode cL_robot 17 = .ok (.astore 4, 2) := by decide +kernel
theorem dL_robot_19 : decode cL_robot 19 = .ok (.iconst 2, 1) := by decide +kernel
theorem dL_robot_20 : decode cL_robot 20 = .ok (.ireturn, 1) := by decide +kernel
theorem dL_robot_21 : decode cL_robot 21 = .ok (.iconst 0, 1) := by decide +kernel
theorem dL_robot_22 : decode cL_robot 22 = .ok (.ireturn, 1) := by decide +kernel
theorem dL_count_0 : decode cL_count 0 = .ok (.aload_n 2, 1) := by decide +kernel
theorem dL_count_1 : decode cL_count 1 = .ok (.iconst 0, 1) := by decide +kernel
theorem dL_count_2 : decode cL_count 2 = .ok (.aload_n 0, 1) := by decide +kernel
theorem dL_count_3 : decode cL_count 3 = .ok (.iload_n 1, 1) := by decide +kernel
theorem dL_count_4 : decode cL_count 4 = .ok (.invokevirtual 32, 3) := by decide +kernel
theorem dL_count_7 : decode cL_count 7 = .ok (.i2l, 1) := by decide +kernel
theorem dL_count_8 : decode cL_count 8 = .ok (.lastore, 1) := by decide +kernel
theorem dL_count_9 : decode cL_count 9 = .ok (.goto 6, 3) := by decide +kernel
theorem dL_count_12 : decode cL_count 12 = .ok (.astore_n 3, 1) := by decide +kernel
theorem dL_count_13 : decode cL_count 13 = .ok (.iconst 1, 1) := by decide +kernel
theorem dL_count_14 : decode cL_count 14 = .ok (.ireturn, 1) := by decide +kernel
theorem dL_count_15 : decode cL_count 15 = .ok (.iconst 0, 1) := by decide +kernel
theorem dL_count_16 : decode cL_count 16 = .ok (.ireturn, 1) := by decide +kernel
theorem dL_region_0 : decode cL_region 0 = .ok (.aload_n 2, 1) := by decide +kernel
theorem dL_region_1 : decode cL_region 1 = .ok (.iconst 0, 1) := by decide +kernel
theorem dL_region_2 : decode cL_region 2 = .ok (.aload_n 0, 1) := by decide +kernel
theorem dL_region_3 : decode cL_region 3 = .ok (.iload_n 1, 1) := by decide +kernel
theorem dL_region_4 : decode cL_region 4 = .ok (.invokevirtual 35, 3) := by decide +kernel
theorem dL_region_7 : decode cL_region 7 = .ok (.i2l, 1) := by decide +kernel
theorem dL_region_8 : decode cL_region 8 = .ok (.lastore, 1) := by decide +kernel
theorem dL_region_9 : decode cL_region 9 = .ok (.goto 6, 3) := by decide +kernel
theorem dL_region_12 : decode cL_region 12 = .ok (.astore_n 3, 1) := by decide +kernel
theorem dL_region_13 : decode cL_region 13 = .ok (.iconst 1, 1) := by decide +kernel
theorem dL_region_14 : decode cL_region 14 = .ok (.ireturn, 1) := by decide +kernel
theorem dL_region_15 : decode cL_region 15 = .ok (.iconst 0, 1) := by decide +kernel
theorem dL_region_16 : decode cL_region 16 = .ok (.ireturn, 1) := by decide +kernel
theorem dL_ticksBetween_0 : decode cL_ticksBetween 0 = .ok (.aload_n 3, 1) := by decide +kernel
theorem dL_ticksBetween_1 : decode cL_ticksBetween 1 = .ok (.iconst 0, 1) := by decide +kernel
theorem dL_ticksBetween_2 : decode cL_ticksBetween 2 = .ok (.aload_n 0, 1) := by decide +kernel
theorem dL_ticksBetween_3 : decode cL_ticksBetween 3 = .ok (.iload_n 1, 1) := by decide +kernel
theorem dL_ticksBetween_4 : decode cL_ticksBetween 4 = .ok (.iload_n 2, 1) := by decide +kernel
theorem dL_ticksBetween_5 : decode cL_ticksBetween 5 = .ok (.invokevirtual 38, 3) := by decide +kernel
theorem dL_ticksBetween_8 : decode cL_ticksBetween 8 = .ok (.i2l, 1) := by decide +kernel
theorem dL_ticksBetween_9 : decode cL_ticksBetween 9 = .ok (.lastore, 1) := by decide +kernel
theorem dL_ticksBetween_10 : decode cL_ticksBetween 10 = .ok (.goto 11, 3) := by decide +kernel
theorem dL_ticksBetween_13 : decode cL_ticksBetween 13 = .ok (.astore 4, 2) := by decide +kernel
theorem dL_ticksBetween_15 : decode cL_ticksBetween 15 = .ok (.iconst 1, 1) := by decide +kernel
theorem dL_ticksBetween_16 : decode cL_ticksBetween 16 = .ok (.ireturn, 1) := by decide +kernel
theorem dL_ticksBetween_17 : decode cL_ticksBetween 17 = .ok (.astore 4, 2) := by decide +kernel
theorem dL_ticksBetween_19 : decode cL_ticksBetween 19 = .ok (.iconst 2, 1) := by decide +kernel
theorem dL_ticksBetween_20 : decode cL_ticksBetween 20 = .ok (.ireturn, 1) := by decide +kernel
theorem dL_ticksBetween_21 : decode cL_ticksBetween 21 = .ok (.iconst 0, 1) := by decide +kernel
theorem dL_ticksBetween_22 : decode cL_ticksBetween 22 = .ok (.ireturn, 1) := by decide +kernel
theorem dL_plan_0 : decode cL_plan 0 = .ok (.aload_n 3, 1) := by decide +kernel
theorem dL_plan_1 : decode cL_plan 1 = .ok (.iconst 0, 1) := by decide +kernel
theorem dL_plan_2 : decode cL_plan 2 = .ok (.aload_n 0, 1) := by decide +kernel
theorem dL_plan_3 : decode cL_plan 3 = .ok (.iload_n 1, 1) := by decide +kernel
theorem dL_plan_4 : decode cL_plan 4 = .ok (.iload_n 2, 1) := by decide +kernel
theorem dL_plan_5 : decode cL_plan 5 = .ok (.invokevirtual 43, 3) := by decide +kernel
theorem dL_plan_8 : decode cL_plan 8 = .ok (.i2l, 1) := by decide +kernel
theorem dL_plan_9 : decode cL_plan 9 = .ok (.lastore, 1) := by decide +kernel
theorem dL_plan_10 : decode cL_plan 10 = .ok (.goto 19, 3) := by decide +kernel
theorem dL_plan_13 : decode cL_plan 13 = .ok (.astore 4, 2) := by decide +kernel
theorem dL_plan_15 : decode cL_plan 15 = .ok (.iconst 1, 1) := by decide +kernel
theorem dL_plan_16 : decode cL_plan 16 = .ok (.ireturn, 1) := by decide +kernel
theorem dL_plan_17 : decode cL_plan 17 = .ok (.astore 4, 2) := by decide +kernel
theorem dL_plan_19 : decode cL_plan 19 = .ok (.iconst 2, 1) := by decide +kernel
theorem dL_plan_20 : decode cL_plan 20 = .ok (.ireturn, 1) := by decide +kernel
theorem dL_plan_21 : decode cL_plan 21 = .ok (.astore 4, 2) := by decide +kernel
theorem dL_plan_23 : decode cL_plan 23 = .ok (.iconst 3, 1) := by decide +kernel
theorem dL_plan_24 : decode cL_plan 24 = .ok (.ireturn, 1) := by decide +kernel
theorem dL_plan_25 : decode cL_plan 25 = .ok (.astore 4, 2) := by decide +kernel
theorem dL_plan_27 : decode cL_plan 27 = .ok (.iconst 4, 1) := by decide +kernel
theorem dL_plan_28 : decode cL_plan 28 = .ok (.ireturn, 1) := by decide +kernel
theorem dL_plan_29 : decode cL_plan 29 = .ok (.iconst 0, 1) := by decide +kernel
theorem dL_plan_30 : decode cL_plan 30 = .ok (.ireturn, 1) := by decide +kernel
theorem dL_arrival_0 : decode cL_arrival 0 = .ok (.aload_n 3, 1) := by decide +kernel
theorem dL_arrival_1 : decode cL_arrival 1 = .ok (.iconst 0, 1) := by decide +kernel
theorem dL_arrival_2 : decode cL_arrival 2 = .ok (.aload_n 0, 1) := by decide +kernel
theorem dL_arrival_3 : decode cL_arrival 3 = .ok (.iload_n 1, 1) := by decide +kernel
theorem dL_arrival_4 : decode cL_arrival 4 = .ok (.iload_n 2, 1) := by decide +kernel
theorem dL_arrival_5 : decode cL_arrival 5 = .ok (.invokevirtual 48, 3) := by decide +kernel
theorem dL_arrival_8 : decode cL_arrival 8 = .ok (.i2l, 1) := by decide +kernel
theorem dL_arrival_9 : decode cL_arrival 9 = .ok (.lastore, 1) := by decide +kernel
theorem dL_arrival_10 : decode cL_arrival 10 = .ok (.goto 15, 3) := by decide +kernel
theorem dL_arrival_13 : decode cL_arrival 13 = .ok (.astore 4, 2) := by decide +kernel
theorem dL_arrival_15 : decode cL_arrival 15 = .ok (.iconst 1, 1) := by decide +kernel
theorem dL_arrival_16 : decode cL_arrival 16 = .ok (.ireturn, 1) := by decide +kernel
theorem dL_arrival_17 : decode cL_arrival 17 = .ok (.astore 4, 2) := by decide +kernel
theorem dL_arrival_19 : decode cL_arrival 19 = .ok (.iconst 2, 1) := by decide +kernel
theorem dL_arrival_20 : decode cL_arrival 20 = .ok (.ireturn, 1) := by decide +kernel
theorem dL_arrival_21 : decode cL_arrival 21 = .ok (.astore 4, 2) := by decide +kernel
theorem dL_arrival_23 : decode cL_arrival 23 = .ok (.iconst 3, 1) := by decide +kernel
theorem dL_arrival_24 : decode cL_arrival 24 = .ok (.ireturn, 1) := by decide +kernel
theorem dL_arrival_25 : decode cL_arrival 25 = .ok (.iconst 0, 1) := by decide +kernel
theorem dL_arrival_26 : decode cL_arrival 26 = .ok (.ireturn, 1) := by decide +kernel
theorem dL_routeCost_0 : decode cL_routeCost 0 = .ok (.aload_n 3, 1) := by decide +kernel
theorem dL_routeCost_1 : decode cL_routeCost 1 = .ok (.iconst 0, 1) := by decide +kernel
theorem dL_routeCost_2 : decode cL_routeCost 2 = .ok (.aload_n 0, 1) := by decide +kernel
theorem dL_routeCost_3 : decode cL_routeCost 3 = .ok (.iload_n 1, 1) := by decide +kernel
theorem dL_routeCost_4 : decode cL_routeCost 4 = .ok (.iload_n 2, 1) := by decide +kernel
theorem dL_routeCost_5 : decode cL_routeCost 5 = .ok (.invokevirtual 51, 3) := by decide +kernel
theorem dL_routeCost_8 : decode cL_routeCost 8 = .ok (.i2l, 1) := by decide +kernel
theorem dL_routeCost_9 : decode cL_routeCost 9 = .ok (.lastore, 1) := by decide +kernel
theorem dL_routeCost_10 : decode cL_routeCost 10 = .ok (.goto 15, 3) := by decide +kernel
theorem dL_routeCost_13 : decode cL_routeCost 13 = .ok (.astore 4, 2) := by decide +kernel
theorem dL_routeCost_15 : decode cL_routeCost 15 = .ok (.iconst 1, 1) := by decide +kernel
theorem dL_routeCost_16 : decode cL_routeCost 16 = .ok (.ireturn, 1) := by decide +kernel
theorem dL_routeCost_17 : decode cL_routeCost 17 = .ok (.astore 4, 2) := by decide +kernel
theorem dL_routeCost_19 : decode cL_routeCost 19 = .ok (.iconst 2, 1) := by decide +kernel
theorem dL_routeCost_20 : decode cL_routeCost 20 = .ok (.ireturn, 1) := by decide +kernel
theorem dL_routeCost_21 : decode cL_routeCost 21 = .ok (.astore 4, 2) := by decide +kernel
theorem dL_routeCost_23 : decode cL_routeCost 23 = .ok (.iconst 3, 1) := by decide +kernel
theorem dL_routeCost_24 : decode cL_routeCost 24 = .ok (.ireturn, 1) := by decide +kernel
theorem dL_routeCost_25 : decode cL_routeCost 25 = .ok (.iconst 0, 1) := by decide +kernel
theorem dL_routeCost_26 : decode cL_routeCost 26 = .ok (.ireturn, 1) := by decide +kernel
theorem dL_action_0 : decode cL_action 0 = .ok (.aload_n 3, 1) := by decide +kernel
theorem dL_action_1 : decode cL_action 1 = .ok (.iconst 0, 1) := by decide +kernel
theorem dL_action_2 : decode cL_action 2 = .ok (.aload_n 0, 1) := by decide +kernel
theorem dL_action_3 : decode cL_action 3 = .ok (.iload_n 1, 1) := by decide +kernel
theorem dL_action_4 : decode cL_action 4 = .ok (.iload_n 2, 1) := by decide +kernel
theorem dL_action_5 : decode cL_action 5 = .ok (.invokevirtual 54, 3) := by decide +kernel
theorem dL_action_8 : decode cL_action 8 = .ok (.i2l, 1) := by decide +kernel
theorem dL_action_9 : decode cL_action 9 = .ok (.lastore, 1) := by decide +kernel
theorem dL_action_10 : decode cL_action 10 = .ok (.goto 11, 3) := by decide +kernel
theorem dL_action_13 : decode cL_action 13 = .ok (.astore 4, 2) := by decide +kernel
theorem dL_action_15 : decode cL_action 15 = .ok (.iconst 1, 1) := by decide +kernel
theorem dL_action_16 : decode cL_action 16 = .ok (.ireturn, 1) := by decide +kernel
theorem dL_action_17 : decode cL_action 17 = .ok (.astore 4, 2) := by decide +kernel
theorem dL_action_19 : decode cL_action 19 = .ok (.iconst 2, 1) := by decide +kernel
theorem dL_action_20 : decode cL_action 20 = .ok (.ireturn, 1) := by decide +kernel
theorem dL_action_21 : decode cL_action 21 = .ok (.iconst 0, 1) := by decide +kernel
theorem dL_action_22 : decode cL_action 22 = .ok (.ireturn, 1) := by decide +kernel
theorem dL_cellAfter_0 : decode cL_cellAfter 0 = .ok (.aload_n 3, 1) := by decide +kernel
theorem dL_cellAfter_1 : decode cL_cellAfter 1 = .ok (.iconst 0, 1) := by decide +kernel
theorem dL_cellAfter_2 : decode cL_cellAfter 2 = .ok (.aload_n 0, 1) := by decide +kernel
theorem dL_cellAfter_3 : decode cL_cellAfter 3 = .ok (.iload_n 1, 1) := by decide +kernel
theorem dL_cellAfter_4 : decode cL_cellAfter 4 = .ok (.iload_n 2, 1) := by decide +kernel
theorem dL_cellAfter_5 : decode cL_cellAfter 5 = .ok (.invokevirtual 57, 3) := by decide +kernel
theorem dL_cellAfter_8 : decode cL_cellAfter 8 = .ok (.i2l, 1) := by decide +kernel
theorem dL_cellAfter_9 : decode cL_cellAfter 9 = .ok (.lastore, 1) := by decide +kernel
theorem dL_cellAfter_10 : decode cL_cellAfter 10 = .ok (.goto 11, 3) := by decide +kernel
theorem dL_cellAfter_13 : decode cL_cellAfter 13 = .ok (.astore 4, 2) := by decide +kernel
theorem dL_cellAfter_15 : decode cL_cellAfter 15 = .ok (.iconst 1, 1) := by decide +kernel
theorem dL_cellAfter_16 : decode cL_cellAfter 16 = .ok (.ireturn, 1) := by decide +kernel
theorem dL_cellAfter_17 : decode cL_cellAfter 17 = .ok (.astore 4, 2) := by decide +kernel
theorem dL_cellAfter_19 : decode cL_cellAfter 19 = .ok (.iconst 2, 1) := by decide +kernel
theorem dL_cellAfter_20 : decode cL_cellAfter 20 = .ok (.ireturn, 1) := by decide +kernel
theorem dL_cellAfter_21 : decode cL_cellAfter 21 = .ok (.iconst 0, 1) := by decide +kernel
theorem dL_cellAfter_22 : decode cL_cellAfter 22 = .ok (.ireturn, 1) := by decide +kernel
theorem dL_robotAt_0 : decode cL_robotAt 0 = .ok (.aload_n 3, 1) := by decide +kernel
theorem dL_robotAt_1 : decode cL_robotAt 1 = .ok (.iconst 0, 1) := by decide +kernel
theorem dL_robotAt_2 : decode cL_robotAt 2 = .ok (.aload_n 0, 1) := by decide +kernel
theorem dL_robotAt_3 : decode cL_robotAt 3 = .ok (.iload_n 1, 1) := by decide +kernel
theorem dL_robotAt_4 : decode cL_robotAt 4 = .ok (.iload_n 2, 1) := by decide +kernel
theorem dL_robotAt_5 : decode cL_robotAt 5 = .ok (.invokevirtual 60, 3) := by decide +kernel
theorem dL_robotAt_8 : decode cL_robotAt 8 = .ok (.i2l, 1) := by decide +kernel
theorem dL_robotAt_9 : decode cL_robotAt 9 = .ok (.lastore, 1) := by decide +kernel
theorem dL_robotAt_10 : decode cL_robotAt 10 = .ok (.goto 11, 3) := by decide +kernel
theorem dL_robotAt_13 : decode cL_robotAt 13 = .ok (.astore 4, 2) := by decide +kernel
theorem dL_robotAt_15 : decode cL_robotAt 15 = .ok (.iconst 1, 1) := by decide +kernel
theorem dL_robotAt_16 : decode cL_robotAt 16 = .ok (.ireturn, 1) := by decide +kernel
theorem dL_robotAt_17 : decode cL_robotAt 17 = .ok (.astore 4, 2) := by decide +kernel
theorem dL_robotAt_19 : decode cL_robotAt 19 = .ok (.iconst 2, 1) := by decide +kernel
theorem dL_robotAt_20 : decode cL_robotAt 20 = .ok (.ireturn, 1) := by decide +kernel
theorem dL_robotAt_21 : decode cL_robotAt 21 = .ok (.iconst 0, 1) := by decide +kernel
theorem dL_robotAt_22 : decode cL_robotAt 22 = .ok (.ireturn, 1) := by decide +kernel
theorem dL_cancel_0 : decode cL_cancel 0 = .ok (.aload_n 2, 1) := by decide +kernel
theorem dL_cancel_1 : decode cL_cancel 1 = .ok (.iconst 0, 1) := by decide +kernel
theorem dL_cancel_2 : decode cL_cancel 2 = .ok (.aload_n 0, 1) := by decide +kernel
theorem dL_cancel_3 : decode cL_cancel 3 = .ok (.iload_n 1, 1) := by decide +kernel
theorem dL_cancel_4 : decode cL_cancel 4 = .ok (.invokevirtual 63, 3) := by decide +kernel
theorem dL_cancel_7 : decode cL_cancel 7 = .ok (.i2l, 1) := by decide +kernel
theorem dL_cancel_8 : decode cL_cancel 8 = .ok (.lastore, 1) := by decide +kernel
theorem dL_cancel_9 : decode cL_cancel 9 = .ok (.goto 12, 3) := by decide +kernel
theorem dL_cancel_12 : decode cL_cancel 12 = .ok (.astore_n 3, 1) := by decide +kernel
theorem dL_cancel_13 : decode cL_cancel 13 = .ok (.iconst 1, 1) := by decide +kernel
theorem dL_cancel_14 : decode cL_cancel 14 = .ok (.ireturn, 1) := by decide +kernel
theorem dL_cancel_15 : decode cL_cancel 15 = .ok (.astore_n 3, 1) := by decide +kernel
theorem dL_cancel_16 : decode cL_cancel 16 = .ok (.iconst 2, 1) := by decide +kernel
theorem dL_cancel_17 : decode cL_cancel 17 = .ok (.ireturn, 1) := by decide +kernel
theorem dL_cancel_18 : decode cL_cancel 18 = .ok (.astore_n 3, 1) := by decide +kernel
theorem dL_cancel_19 : decode cL_cancel 19 = .ok (.iconst 3, 1) := by decide +kernel
theorem dL_cancel_20 : decode cL_cancel 20 = .ok (.ireturn, 1) := by decide +kernel
theorem dL_cancel_21 : decode cL_cancel 21 = .ok (.iconst 0, 1) := by decide +kernel
theorem dL_cancel_22 : decode cL_cancel 22 = .ok (.ireturn, 1) := by decide +kernel
theorem dL_blockers_0 : decode cL_blockers 0 = .ok (.aload_n 3, 1) := by decide +kernel
theorem dL_blockers_1 : decode cL_blockers 1 = .ok (.iconst 0, 1) := by decide +kernel
theorem dL_blockers_2 : decode cL_blockers 2 = .ok (.aload_n 0, 1) := by decide +kernel
theorem dL_blockers_3 : decode cL_blockers 3 = .ok (.iload_n 1, 1) := by decide +kernel
theorem dL_blockers_4 : decode cL_blockers 4 = .ok (.iload_n 2, 1) := by decide +kernel
theorem dL_blockers_5 : decode cL_blockers 5 = .ok (.invokevirtual 66, 3) := by decide +kernel
theorem dL_blockers_8 : decode cL_blockers 8 = .ok (.i2l, 1) := by decide +kernel
theorem dL_blockers_9 : decode cL_blockers 9 = .ok (.lastore, 1) := by decide +kernel
theorem dL_blockers_10 : decode cL_blockers 10 = .ok (.goto 7, 3) := by decide +kernel
theorem dL_blockers_13 : decode cL_blockers 13 = .ok (.astore 4, 2) := by decide +kernel
theorem dL_blockers_15 : decode cL_blockers 15 = .ok (.iconst 1, 1) := by decide +kernel
theorem dL_blockers_16 : decode cL_blockers 16 = .ok (.ireturn, 1) := by decide +kernel
theorem dL_blockers_17 : decode cL_blockers 17 = .ok (.iconst 0, 1) := by decide +kernel
theorem dL_blockers_18 : decode cL_blockers 18 = .ok (.ireturn, 1) := by decide +kernel
theorem dL_makeWay_0 : decode cL_makeWay 0 = .ok (.aload_n 3, 1) := by decide +kernel
theorem dL_makeWay_1 : decode cL_makeWay 1 = .ok (.iconst 0, 1) := by decide +kernel
theorem dL_makeWay_2 : decode cL_makeWay 2 = .ok (.aload_n 0, 1) := by decide +kernel
theorem dL_makeWay_3 : decode cL_makeWay 3 = .ok (.iload_n 1, 1) := by decide +kernel
theorem dL_makeWay_4 : decode cL_makeWay 4 = .ok (.iload_n 2, 1) := by decide +kernel
theorem dL_makeWay_5 : decode cL_makeWay 5 = .ok (.invokevirtual 69, 3) := by decide +kernel
theorem dL_makeWay_8 : decode cL_makeWay 8 = .ok (.i2l, 1) := by decide +kernel
theorem dL_makeWay_9 : decode cL_makeWay 9 = .ok (.lastore, 1) := by decide +kernel
theorem dL_makeWay_10 : decode cL_makeWay 10 = .ok (.goto 15, 3) := by decide +kernel
theorem dL_makeWay_13 : decode cL_makeWay 13 = .ok (.astore 4, 2) := by decide +kernel
theorem dL_makeWay_15 : decode cL_makeWay 15 = .ok (.iconst 1, 1) := by decide +kernel
theorem dL_makeWay_16 : decode cL_makeWay 16 = .ok (.ireturn, 1) := by decide +kernel
theorem dL_makeWay_17 : decode cL_makeWay 17 = .ok (.astore 4, 2) := by decide +kernel
theorem dL_makeWay_19 : decode cL_makeWay 19 = .ok (.iconst 2, 1) := by decide +kernel
theorem dL_makeWay_20 : decode cL_makeWay 20 = .ok (.ireturn, 1) := by decide +kernel
theorem dL_makeWay_21 : decode cL_makeWay 21 = .ok (.astore 4, 2) := by decide +kernel
theorem dL_makeWay_23 : decode cL_makeWay 23 = .ok (.iconst 3, 1) := by decide +kernel
theorem dL_makeWay_24 : decode cL_makeWay 24 = .ok (.ireturn, 1) := by decide +kernel
theorem dL_makeWay_25 : decode cL_makeWay 25 = .ok (.iconst 0, 1) := by decide +kernel
theorem dL_makeWay_26 : decode cL_makeWay 26 = .ok (.ireturn, 1) := by decide +kernel
theorem dL_planToCharger_0 : decode cL_planToCharger 0 = .ok (.aload_n 2, 1) := by decide +kernel
theorem dL_planToCharger_1 : decode cL_planToCharger 1 = .ok (.iconst 0, 1) := by decide +kernel
theorem dL_planToCharger_2 : decode cL_planToCharger 2 = .ok (.aload_n 0, 1) := by decide +kernel
theorem dL_planToCharger_3 : decode cL_planToCharger 3 = .ok (.iload_n 1, 1) := by decide +kernel
theorem dL_planToCharger_4 : decode cL_planToCharger 4 = .ok (.invokevirtual 72, 3) := by decide +kernel
theorem dL_planToCharger_7 : decode cL_planToCharger 7 = .ok (.i2l, 1) := by decide +kernel
theorem dL_planToCharger_8 : decode cL_planToCharger 8 = .ok (.lastore, 1) := by decide +kernel
theorem dL_planToCharger_9 : decode cL_planToCharger 9 = .ok (.goto 12, 3) := by decide +kernel
theorem dL_planToCharger_12 : decode cL_planToCharger 12 = .ok (.astore_n 3, 1) := by decide +kernel
theorem dL_planToCharger_13 : decode cL_planToCharger 13 = .ok (.iconst 1, 1) := by decide +kernel
theorem dL_planToCharger_14 : decode cL_planToCharger 14 = .ok (.ireturn, 1) := by decide +kernel
theorem dL_planToCharger_15 : decode cL_planToCharger 15 = .ok (.astore_n 3, 1) := by decide +kernel
theorem dL_planToCharger_16 : decode cL_planToCharger 16 = .ok (.iconst 2, 1) := by decide +kernel
theorem dL_planToCharger_17 : decode cL_planToCharger 17 = .ok (.ireturn, 1) := by decide +kernel
theorem dL_planToCharger_18 : decode cL_planToCharger 18 = .ok (.astore_n 3, 1) := by decide +kernel
theorem dL_planToCharger_19 : decode cL_planToCharger 19 = .ok (.iconst 3, 1) := by decide +kernel
theorem dL_planToCharger_20 : decode cL_planToCharger 20 = .ok (.ireturn, 1) := by decide +kernel
theorem dL_planToCharger_21 : decode cL_planToCharger 21 = .ok (.iconst 0, 1) := by decide +kernel
theorem dL_planToCharger_22 : decode cL_planToCharger 22 = .ok (.ireturn, 1) := by decide +kernel
theorem dL_addTask_0 : decode cL_addTask 0 = .ok (.aload 5, 2) := by decide +kernel
theorem dL_addTask_2 : decode cL_addTask 2 = .ok (.iconst 0, 1) := by decide +kernel
theorem dL_addTask_3 : decode cL_addTask 3 = .ok (.aload_n 0, 1) := by decide +kernel
theorem dL_addTask_4 : decode cL_addTask 4 = .ok (.iload_n 1, 1) := by decide +kernel
theorem dL_addTask_5 : decode cL_addTask 5 = .ok (.iload_n 2, 1) := by decide +kernel
theorem dL_addTask_6 : decode cL_addTask 6 = .ok (.iload_n 3, 1) := by decide +kernel
theorem dL_addTask_7 : decode cL_addTask 7 = .ok (.iload 4, 2) := by decide +kernel
theorem dL_addTask_9 : decode cL_addTask 9 = .ok (.invokevirtual 75, 3) := by decide +kernel
theorem dL_addTask_12 : decode cL_addTask 12 = .ok (.i2l, 1) := by decide +kernel
theorem dL_addTask_13 : decode cL_addTask 13 = .ok (.lastore, 1) := by decide +kernel
theorem dL_addTask_14 : decode cL_addTask 14 = .ok (.goto 15, 3) := by decide +kernel
theorem dL_addTask_17 : decode cL_addTask 17 = .ok (.astore 6, 2) := by decide +kernel
theorem dL_addTask_19 : decode cL_addTask 19 = .ok (.iconst 1, 1) := by decide +kernel
theorem dL_addTask_20 : decode cL_addTask 20 = .ok (.ireturn, 1) := by decide +kernel
theorem dL_addTask_21 : decode cL_addTask 21 = .ok (.astore 6, 2) := by decide +kernel
theorem dL_addTask_23 : decode cL_addTask 23 = .ok (.iconst 2, 1) := by decide +kernel
theorem dL_addTask_24 : decode cL_addTask 24 = .ok (.ireturn, 1) := by decide +kernel
theorem dL_addTask_25 : decode cL_addTask 25 = .ok (.astore 6, 2) := by decide +kernel
theorem dL_addTask_27 : decode cL_addTask 27 = .ok (.iconst 3, 1) := by decide +kernel
theorem dL_addTask_28 : decode cL_addTask 28 = .ok (.ireturn, 1) := by decide +kernel
theorem dL_addTask_29 : decode cL_addTask 29 = .ok (.iconst 0, 1) := by decide +kernel
theorem dL_addTask_30 : decode cL_addTask 30 = .ok (.ireturn, 1) := by decide +kernel
theorem dL_serve_0 : decode cL_serve 0 = .ok (.aload_n 3, 1) := by decide +kernel
theorem dL_serve_1 : decode cL_serve 1 = .ok (.iconst 0, 1) := by decide +kernel
theorem dL_serve_2 : decode cL_serve 2 = .ok (.aload_n 0, 1) := by decide +kernel
theorem dL_serve_3 : decode cL_serve 3 = .ok (.iload_n 1, 1) := by decide +kernel
theorem dL_serve_4 : decode cL_serve 4 = .ok (.iload_n 2, 1) := by decide +kernel
theorem dL_serve_5 : decode cL_serve 5 = .ok (.invokevirtual 79, 3) := by decide +kernel
theorem dL_serve_8 : decode cL_serve 8 = .ok (.i2l, 1) := by decide +kernel
theorem dL_serve_9 : decode cL_serve 9 = .ok (.lastore, 1) := by decide +kernel
theorem dL_serve_10 : decode cL_serve 10 = .ok (.goto 11, 3) := by decide +kernel
theorem dL_serve_13 : decode cL_serve 13 = .ok (.astore 4, 2) := by decide +kernel
theorem dL_serve_15 : decode cL_serve 15 = .ok (.iconst 1, 1) := by decide +kernel
theorem dL_serve_16 : decode cL_serve 16 = .ok (.ireturn, 1) := by decide +kernel
theorem dL_serve_17 : decode cL_serve 17 = .ok (.astore 4, 2) := by decide +kernel
theorem dL_serve_19 : decode cL_serve 19 = .ok (.iconst 2, 1) := by decide +kernel
theorem dL_serve_20 : decode cL_serve 20 = .ok (.ireturn, 1) := by decide +kernel
theorem dL_serve_21 : decode cL_serve 21 = .ok (.iconst 0, 1) := by decide +kernel
theorem dL_serve_22 : decode cL_serve 22 = .ok (.ireturn, 1) := by decide +kernel
theorem dL_bestRobot_0 : decode cL_bestRobot 0 = .ok (.aload_n 2, 1) := by decide +kernel
theorem dL_bestRobot_1 : decode cL_bestRobot 1 = .ok (.iconst 0, 1) := by decide +kernel
theorem dL_bestRobot_2 : decode cL_bestRobot 2 = .ok (.aload_n 0, 1) := by decide +kernel
theorem dL_bestRobot_3 : decode cL_bestRobot 3 = .ok (.iload_n 1, 1) := by decide +kernel
theorem dL_bestRobot_4 : decode cL_bestRobot 4 = .ok (.invokevirtual 82, 3) := by decide +kernel
theorem dL_bestRobot_7 : decode cL_bestRobot 7 = .ok (.i2l, 1) := by decide +kernel
theorem dL_bestRobot_8 : decode cL_bestRobot 8 = .ok (.lastore, 1) := by decide +kernel
theorem dL_bestRobot_9 : decode cL_bestRobot 9 = .ok (.goto 12, 3) := by decide +kernel
theorem dL_bestRobot_12 : decode cL_bestRobot 12 = .ok (.astore_n 3, 1) := by decide +kernel
theorem dL_bestRobot_13 : decode cL_bestRobot 13 = .ok (.iconst 1, 1) := by decide +kernel
theorem dL_bestRobot_14 : decode cL_bestRobot 14 = .ok (.ireturn, 1) := by decide +kernel
theorem dL_bestRobot_15 : decode cL_bestRobot 15 = .ok (.astore_n 3, 1) := by decide +kernel
theorem dL_bestRobot_16 : decode cL_bestRobot 16 = .ok (.iconst 2, 1) := by decide +kernel
theorem dL_bestRobot_17 : decode cL_bestRobot 17 = .ok (.ireturn, 1) := by decide +kernel
theorem dL_bestRobot_18 : decode cL_bestRobot 18 = .ok (.astore_n 3, 1) := by decide +kernel
theorem dL_bestRobot_19 : decode cL_bestRobot 19 = .ok (.iconst 3, 1) := by decide +kernel
theorem dL_bestRobot_20 : decode cL_bestRobot 20 = .ok (.ireturn, 1) := by decide +kernel
theorem dL_bestRobot_21 : decode cL_bestRobot 21 = .ok (.iconst 0, 1) := by decide +kernel
theorem dL_bestRobot_22 : decode cL_bestRobot 22 = .ok (.ireturn, 1) := by decide +kernel
theorem dL_task_0 : decode cL_task 0 = .ok (.aload_n 3, 1) := by decide +kernel
theorem dL_task_1 : decode cL_task 1 = .ok (.iconst 0, 1) := by decide +kernel
theorem dL_task_2 : decode cL_task 2 = .ok (.aload_n 0, 1) := by decide +kernel
theorem dL_task_3 : decode cL_task 3 = .ok (.iload_n 1, 1) := by decide +kernel
theorem dL_task_4 : decode cL_task 4 = .ok (.iload_n 2, 1) := by decide +kernel
theorem dL_task_5 : decode cL_task 5 = .ok (.invokevirtual 85, 3) := by decide +kernel
theorem dL_task_8 : decode cL_task 8 = .ok (.i2l, 1) := by decide +kernel
theorem dL_task_9 : decode cL_task 9 = .ok (.lastore, 1) := by decide +kernel
theorem dL_task_10 : decode cL_task 10 = .ok (.goto 11, 3) := by decide +kernel
theorem dL_task_13 : decode cL_task 13 = .ok (.astore 4, 2) := by decide +kernel
theorem dL_task_15 : decode cL_task 15 = .ok (.iconst 1, 1) := by decide +kernel
theorem dL_task_16 : decode cL_task 16 = .ok (.ireturn, 1) := by decide +kernel
theorem dL_task_17 : decode cL_task 17 = .ok (.astore 4, 2) := by decide +kernel
theorem dL_task_19 : decode cL_task 19 = .ok (.iconst 2, 1) := by decide +kernel
theorem dL_task_20 : decode cL_task 20 = .ok (.ireturn, 1) := by decide +kernel
theorem dL_task_21 : decode cL_task 21 = .ok (.iconst 0, 1) := by decide +kernel
theorem dL_task_22 : decode cL_task 22 = .ok (.ireturn, 1) := by decide +kernel
theorem dL_tasksIn_0 : decode cL_tasksIn 0 = .ok (.aload_n 2, 1) := by decide +kernel
theorem dL_tasksIn_1 : decode cL_tasksIn 1 = .ok (.iconst 0, 1) := by decide +kernel
theorem dL_tasksIn_2 : decode cL_tasksIn 2 = .ok (.aload_n 0, 1) := by decide +kernel
theorem dL_tasksIn_3 : decode cL_tasksIn 3 = .ok (.iload_n 1, 1) := by decide +kernel
theorem dL_tasksIn_4 : decode cL_tasksIn 4 = .ok (.invokevirtual 88, 3) := by decide +kernel
theorem dL_tasksIn_7 : decode cL_tasksIn 7 = .ok (.i2l, 1) := by decide +kernel
theorem dL_tasksIn_8 : decode cL_tasksIn 8 = .ok (.lastore, 1) := by decide +kernel
theorem dL_tasksIn_9 : decode cL_tasksIn 9 = .ok (.goto 6, 3) := by decide +kernel
theorem dL_tasksIn_12 : decode cL_tasksIn 12 = .ok (.astore_n 3, 1) := by decide +kernel
theorem dL_tasksIn_13 : decode cL_tasksIn 13 = .ok (.iconst 1, 1) := by decide +kernel
theorem dL_tasksIn_14 : decode cL_tasksIn 14 = .ok (.ireturn, 1) := by decide +kernel
theorem dL_tasksIn_15 : decode cL_tasksIn 15 = .ok (.iconst 0, 1) := by decide +kernel
theorem dL_tasksIn_16 : decode cL_tasksIn 16 = .ok (.ireturn, 1) := by decide +kernel
theorem dL_advance_0 : decode cL_advance 0 = .ok (.aload_n 2, 1) := by decide +kernel
theorem dL_advance_1 : decode cL_advance 1 = .ok (.iconst 0, 1) := by decide +kernel
theorem dL_advance_2 : decode cL_advance 2 = .ok (.aload_n 0, 1) := by decide +kernel
theorem dL_advance_3 : decode cL_advance 3 = .ok (.iload_n 1, 1) := by decide +kernel
theorem dL_advance_4 : decode cL_advance 4 = .ok (.invokevirtual 91, 3) := by decide +kernel
theorem dL_advance_7 : decode cL_advance 7 = .ok (.i2l, 1) := by decide +kernel
theorem dL_advance_8 : decode cL_advance 8 = .ok (.lastore, 1) := by decide +kernel
theorem dL_advance_9 : decode cL_advance 9 = .ok (.goto 9, 3) := by decide +kernel
theorem dL_advance_12 : decode cL_advance 12 = .ok (.astore_n 3, 1) := by decide +kernel
theorem dL_advance_13 : decode cL_advance 13 = .ok (.iconst 1, 1) := by decide +kernel
theorem dL_advance_14 : decode cL_advance 14 = .ok (.ireturn, 1) := by decide +kernel
theorem dL_advance_15 : decode cL_advance 15 = .ok (.astore_n 3, 1) := by decide +kernel
theorem dL_advance_16 : decode cL_advance 16 = .ok (.iconst 2, 1) := by decide +kernel
theorem dL_advance_17 : decode cL_advance 17 = .ok (.ireturn, 1) := by decide +kernel
theorem dL_advance_18 : decode cL_advance 18 = .ok (.iconst 0, 1) := by decide +kernel
theorem dL_advance_19 : decode cL_advance 19 = .ok (.ireturn, 1) := by decide +kernel
theorem dL_statistic_0 : decode cL_statistic 0 = .ok (.aload_n 3, 1) := by decide +kernel
theorem dL_statistic_1 : decode cL_statistic 1 = .ok (.iconst 0, 1) := by decide +kernel
theorem dL_statistic_2 : decode cL_statistic 2 = .ok (.aload_n 0, 1) := by decide +kernel
theorem dL_statistic_3 : decode cL_statistic 3 = .ok (.iload_n 1, 1) := by decide +kernel
theorem dL_statistic_4 : decode cL_statistic 4 = .ok (.iload_n 2, 1) := by decide +kernel
theorem dL_statistic_5 : decode cL_statistic 5 = .ok (.invokevirtual 94, 3) := by decide +kernel
theorem dL_statistic_8 : decode cL_statistic 8 = .ok (.i2l, 1) := by decide +kernel
theorem dL_statistic_9 : decode cL_statistic 9 = .ok (.lastore, 1) := by decide +kernel
theorem dL_statistic_10 : decode cL_statistic 10 = .ok (.goto 11, 3) := by decide +kernel
theorem dL_statistic_13 : decode cL_statistic 13 = .ok (.astore 4, 2) := by decide +kernel
theorem dL_statistic_15 : decode cL_statistic 15 = .ok (.iconst 1, 1) := by decide +kernel
theorem dL_statistic_16 : decode cL_statistic 16 = .ok (.ireturn, 1) := by decide +kernel
theorem dL_statistic_17 : decode cL_statistic 17 = .ok (.astore 4, 2) := by decide +kernel
theorem dL_statistic_19 : decode cL_statistic 19 = .ok (.iconst 2, 1) := by decide +kernel
theorem dL_statistic_20 : decode cL_statistic 20 = .ok (.ireturn, 1) := by decide +kernel
theorem dL_statistic_21 : decode cL_statistic 21 = .ok (.iconst 0, 1) := by decide +kernel
theorem dL_statistic_22 : decode cL_statistic 22 = .ok (.ireturn, 1) := by decide +kernel
theorem dL_activity_0 : decode cL_activity 0 = .ok (.aload_n 2, 1) := by decide +kernel
theorem dL_activity_1 : decode cL_activity 1 = .ok (.iconst 0, 1) := by decide +kernel
theorem dL_activity_2 : decode cL_activity 2 = .ok (.aload_n 0, 1) := by decide +kernel
theorem dL_activity_3 : decode cL_activity 3 = .ok (.iload_n 1, 1) := by decide +kernel
theorem dL_activity_4 : decode cL_activity 4 = .ok (.invokevirtual 97, 3) := by decide +kernel
theorem dL_activity_7 : decode cL_activity 7 = .ok (.f2d, 1) := by decide +kernel
theorem dL_activity_8 : decode cL_activity 8 = .ok (.dastore, 1) := by decide +kernel
theorem dL_activity_9 : decode cL_activity 9 = .ok (.goto 9, 3) := by decide +kernel
theorem dL_activity_12 : decode cL_activity 12 = .ok (.astore_n 3, 1) := by decide +kernel
theorem dL_activity_13 : decode cL_activity 13 = .ok (.iconst 1, 1) := by decide +kernel
theorem dL_activity_14 : decode cL_activity 14 = .ok (.ireturn, 1) := by decide +kernel
theorem dL_activity_15 : decode cL_activity 15 = .ok (.astore_n 3, 1) := by decide +kernel
theorem dL_activity_16 : decode cL_activity 16 = .ok (.iconst 2, 1) := by decide +kernel
theorem dL_activity_17 : decode cL_activity 17 = .ok (.ireturn, 1) := by decide +kernel
theorem dL_activity_18 : decode cL_activity 18 = .ok (.iconst 0, 1) := by decide +kernel
theorem dL_activity_19 : decode cL_activity 19 = .ok (.ireturn, 1) := by decide +kernel
theorem dL_activityBits_0 : decode cL_activityBits 0 = .ok (.aload_n 2, 1) := by decide +kernel
theorem dL_activityBits_1 : decode cL_activityBits 1 = .ok (.iconst 0, 1) := by decide +kernel
theorem dL_activityBits_2 : decode cL_activityBits 2 = .ok (.aload_n 0, 1) := by decide +kernel
theorem dL_activityBits_3 : decode cL_activityBits 3 = .ok (.iload_n 1, 1) := by decide +kernel
theorem dL_activityBits_4 : decode cL_activityBits 4 = .ok (.invokevirtual 103, 3) := by decide +kernel
theorem dL_activityBits_7 : decode cL_activityBits 7 = .ok (.i2l, 1) := by decide +kernel
theorem dL_activityBits_8 : decode cL_activityBits 8 = .ok (.lastore, 1) := by decide +kernel
theorem dL_activityBits_9 : decode cL_activityBits 9 = .ok (.goto 9, 3) := by decide +kernel
theorem dL_activityBits_12 : decode cL_activityBits 12 = .ok (.astore_n 3, 1) := by decide +kernel
theorem dL_activityBits_13 : decode cL_activityBits 13 = .ok (.iconst 1, 1) := by decide +kernel
theorem dL_activityBits_14 : decode cL_activityBits 14 = .ok (.ireturn, 1) := by decide +kernel
theorem dL_activityBits_15 : decode cL_activityBits 15 = .ok (.astore_n 3, 1) := by decide +kernel
theorem dL_activityBits_16 : decode cL_activityBits 16 = .ok (.iconst 2, 1) := by decide +kernel
theorem dL_activityBits_17 : decode cL_activityBits 17 = .ok (.ireturn, 1) := by decide +kernel
theorem dL_activityBits_18 : decode cL_activityBits 18 = .ok (.iconst 0, 1) := by decide +kernel
theorem dL_activityBits_19 : decode cL_activityBits 19 = .ok (.ireturn, 1) := by decide +kernel
theorem dL_averageDelay_0 : decode cL_averageDelay 0 = .ok (.aload_n 1, 1) := by decide +kernel
theorem dL_averageDelay_1 : decode cL_averageDelay 1 = .ok (.iconst 0, 1) := by decide +kernel
theorem dL_averageDelay_2 : decode cL_averageDelay 2 = .ok (.aload_n 0, 1) := by decide +kernel
theorem dL_averageDelay_3 : decode cL_averageDelay 3 = .ok (.invokevirtual 106, 3) := by decide +kernel
theorem dL_averageDelay_6 : decode cL_averageDelay 6 = .ok (.dastore, 1) := by decide +kernel
theorem dL_averageDelay_7 : decode cL_averageDelay 7 = .ok (.goto 6, 3) := by decide +kernel
theorem dL_averageDelay_10 : decode cL_averageDelay 10 = .ok (.astore_n 2, 1) := by decide +kernel
theorem dL_averageDelay_11 : decode cL_averageDelay 11 = .ok (.iconst 1, 1) := by decide +kernel
theorem dL_averageDelay_12 : decode cL_averageDelay 12 = .ok (.ireturn, 1) := by decide +kernel
theorem dL_averageDelay_13 : decode cL_averageDelay 13 = .ok (.iconst 0, 1) := by decide +kernel
theorem dL_averageDelay_14 : decode cL_averageDelay 14 = .ok (.ireturn, 1) := by decide +kernel
theorem dL_visits_0 : decode cL_visits 0 = .ok (.aload_n 2, 1) := by decide +kernel
theorem dL_visits_1 : decode cL_visits 1 = .ok (.iconst 0, 1) := by decide +kernel
theorem dL_visits_2 : decode cL_visits 2 = .ok (.aload_n 0, 1) := by decide +kernel
theorem dL_visits_3 : decode cL_visits 3 = .ok (.iload_n 1, 1) := by decide +kernel
theorem dL_visits_4 : decode cL_visits 4 = .ok (.invokevirtual 110, 3) := by decide +kernel
theorem dL_visits_7 : decode cL_visits 7 = .ok (.i2l, 1) := by decide +kernel
theorem dL_visits_8 : decode cL_visits 8 = .ok (.lastore, 1) := by decide +kernel
theorem dL_visits_9 : decode cL_visits 9 = .ok (.goto 6, 3) := by decide +kernel
theorem dL_visits_12 : decode cL_visits 12 = .ok (.astore_n 3, 1) := by decide +kernel
theorem dL_visits_13 : decode cL_visits 13 = .ok (.iconst 1, 1) := by decide +kernel
theorem dL_visits_14 : decode cL_visits 14 = .ok (.ireturn, 1) := by decide +kernel
theorem dL_visits_15 : decode cL_visits 15 = .ok (.iconst 0, 1) := by decide +kernel
theorem dL_visits_16 : decode cL_visits 16 = .ok (.ireturn, 1) := by decide +kernel
theorem dL_sample_0 : decode cL_sample 0 = .ok (.aload 4, 2) := by decide +kernel
theorem dL_sample_2 : decode cL_sample 2 = .ok (.iconst 0, 1) := by decide +kernel
theorem dL_sample_3 : decode cL_sample 3 = .ok (.aload_n 0, 1) := by decide +kernel
theorem dL_sample_4 : decode cL_sample 4 = .ok (.iload_n 1, 1) := by decide +kernel
theorem dL_sample_5 : decode cL_sample 5 = .ok (.iload_n 2, 1) := by decide +kernel
theorem dL_sample_6 : decode cL_sample 6 = .ok (.iload_n 3, 1) := by decide +kernel
theorem dL_sample_7 : decode cL_sample 7 = .ok (.invokevirtual 113, 3) := by decide +kernel
theorem dL_sample_10 : decode cL_sample 10 = .ok (.i2l, 1) := by decide +kernel
theorem dL_sample_11 : decode cL_sample 11 = .ok (.lastore, 1) := by decide +kernel
theorem dL_sample_12 : decode cL_sample 12 = .ok (.goto 11, 3) := by decide +kernel
theorem dL_sample_15 : decode cL_sample 15 = .ok (.astore 5, 2) := by decide +kernel
theorem dL_sample_17 : decode cL_sample 17 = .ok (.iconst 1, 1) := by decide +kernel
theorem dL_sample_18 : decode cL_sample 18 = .ok (.ireturn, 1) := by decide +kernel
theorem dL_sample_19 : decode cL_sample 19 = .ok (.astore 5, 2) := by decide +kernel
theorem dL_sample_21 : decode cL_sample 21 = .ok (.iconst 2, 1) := by decide +kernel
theorem dL_sample_22 : decode cL_sample 22 = .ok (.ireturn, 1) := by decide +kernel
theorem dL_sample_23 : decode cL_sample 23 = .ok (.iconst 0, 1) := by decide +kernel
theorem dL_sample_24 : decode cL_sample 24 = .ok (.ireturn, 1) := by decide +kernel
theorem dL_sampled_0 : decode cL_sampled 0 = .ok (.aload 4, 2) := by decide +kernel
theorem dL_sampled_2 : decode cL_sampled 2 = .ok (.iconst 0, 1) := by decide +kernel
theorem dL_sampled_3 : decode cL_sampled 3 = .ok (.aload_n 0, 1) := by decide +kernel
theorem dL_sampled_4 : decode cL_sampled 4 = .ok (.iload_n 1, 1) := by decide +kernel
theorem dL_sampled_5 : decode cL_sampled 5 = .ok (.iload_n 2, 1) := by decide +kernel
theorem dL_sampled_6 : decode cL_sampled 6 = .ok (.iload_n 3, 1) := by decide +kernel
theorem dL_sampled_7 : decode cL_sampled 7 = .ok (.invokevirtual 117, 3) := by decide +kernel
theorem dL_sampled_10 : decode cL_sampled 10 = .ok (.i2l, 1) := by decide +kernel
theorem dL_sampled_11 : decode cL_sampled 11 = .ok (.lastore, 1) := by decide +kernel
theorem dL_sampled_12 : decode cL_sampled 12 = .ok (.goto 15, 3) := by decide +kernel
theorem dL_sampled_15 : decode cL_sampled 15 = .ok (.astore 5, 2) := by decide +kernel
theorem dL_sampled_17 : decode cL_sampled 17 = .ok (.iconst 1, 1) := by decide +kernel
theorem dL_sampled_18 : decode cL_sampled 18 = .ok (.ireturn, 1) := by decide +kernel
theorem dL_sampled_19 : decode cL_sampled 19 = .ok (.astore 5, 2) := by decide +kernel
theorem dL_sampled_21 : decode cL_sampled 21 = .ok (.iconst 2, 1) := by decide +kernel
theorem dL_sampled_22 : decode cL_sampled 22 = .ok (.ireturn, 1) := by decide +kernel
theorem dL_sampled_23 : decode cL_sampled 23 = .ok (.astore 5, 2) := by decide +kernel
theorem dL_sampled_25 : decode cL_sampled 25 = .ok (.iconst 3, 1) := by decide +kernel
theorem dL_sampled_26 : decode cL_sampled 26 = .ok (.ireturn, 1) := by decide +kernel
theorem dL_sampled_27 : decode cL_sampled 27 = .ok (.iconst 0, 1) := by decide +kernel
theorem dL_sampled_28 : decode cL_sampled 28 = .ok (.ireturn, 1) := by decide +kernel
theorem dL_append_0 : decode cL_append 0 = .ok (.aload_n 2, 1) := by decide +kernel
theorem dL_append_1 : decode cL_append 1 = .ok (.iconst 0, 1) := by decide +kernel
theorem dL_append_2 : decode cL_append 2 = .ok (.aload_n 0, 1) := by decide +kernel
theorem dL_append_3 : decode cL_append 3 = .ok (.iload_n 1, 1) := by decide +kernel
theorem dL_append_4 : decode cL_append 4 = .ok (.invokevirtual 120, 3) := by decide +kernel
theorem dL_append_7 : decode cL_append 7 = .ok (.i2l, 1) := by decide +kernel
theorem dL_append_8 : decode cL_append 8 = .ok (.lastore, 1) := by decide +kernel
theorem dL_append_9 : decode cL_append 9 = .ok (.goto 9, 3) := by decide +kernel
theorem dL_append_12 : decode cL_append 12 = .ok (.astore_n 3, 1) := by decide +kernel
theorem dL_append_13 : decode cL_append 13 = .ok (.iconst 1, 1) := by decide +kernel
theorem dL_append_14 : decode cL_append 14 = .ok (.ireturn, 1) := by decide +kernel
theorem dL_append_15 : decode cL_append 15 = .ok (.astore_n 3, 1) := by decide +kernel
theorem dL_append_16 : decode cL_append 16 = .ok (.iconst 2, 1) := by decide +kernel
theorem dL_append_17 : decode cL_append 17 = .ok (.ireturn, 1) := by decide +kernel
theorem dL_append_18 : decode cL_append 18 = .ok (.iconst 0, 1) := by decide +kernel
theorem dL_append_19 : decode cL_append 19 = .ok (.ireturn, 1) := by decide +kernel
theorem dL_read_0 : decode cL_read 0 = .ok (.aload_n 1, 1) := by decide +kernel
theorem dL_read_1 : decode cL_read 1 = .ok (.iconst 0, 1) := by decide +kernel
theorem dL_read_2 : decode cL_read 2 = .ok (.aload_n 0, 1) := by decide +kernel
theorem dL_read_3 : decode cL_read 3 = .ok (.invokevirtual 124, 3) := by decide +kernel
theorem dL_read_6 : decode cL_read 6 = .ok (.i2l, 1) := by decide +kernel
theorem dL_read_7 : decode cL_read 7 = .ok (.lastore, 1) := by decide +kernel
theorem dL_read_8 : decode cL_read 8 = .ok (.goto 9, 3) := by decide +kernel
theorem dL_read_11 : decode cL_read 11 = .ok (.astore_n 2, 1) := by decide +kernel
theorem dL_read_12 : decode cL_read 12 = .ok (.iconst 1, 1) := by decide +kernel
theorem dL_read_13 : decode cL_read 13 = .ok (.ireturn, 1) := by decide +kernel
theorem dL_read_14 : decode cL_read 14 = .ok (.astore_n 2, 1) := by decide +kernel
theorem dL_read_15 : decode cL_read 15 = .ok (.iconst 2, 1) := by decide +kernel
theorem dL_read_16 : decode cL_read 16 = .ok (.ireturn, 1) := by decide +kernel
theorem dL_read_17 : decode cL_read 17 = .ok (.iconst 0, 1) := by decide +kernel
theorem dL_read_18 : decode cL_read 18 = .ok (.ireturn, 1) := by decide +kernel
theorem dL_errorPosition_0 : decode cL_errorPosition 0 = .ok (.aload_n 1, 1) := by decide +kernel
theorem dL_errorPosition_1 : decode cL_errorPosition 1 = .ok (.iconst 0, 1) := by decide +kernel
theorem dL_errorPosition_2 : decode cL_errorPosition 2 = .ok (.aload_n 0, 1) := by decide +kernel
theorem dL_errorPosition_3 : decode cL_errorPosition 3 = .ok (.invokevirtual 128, 3) := by decide +kernel
theorem dL_errorPosition_6 : decode cL_errorPosition 6 = .ok (.i2l, 1) := by decide +kernel
theorem dL_errorPosition_7 : decode cL_errorPosition 7 = .ok (.lastore, 1) := by decide +kernel
theorem dL_errorPosition_8 : decode cL_errorPosition 8 = .ok (.goto 6, 3) := by decide +kernel
theorem dL_errorPosition_11 : decode cL_errorPosition 11 = .ok (.astore_n 2, 1) := by decide +kernel
theorem dL_errorPosition_12 : decode cL_errorPosition 12 = .ok (.iconst 1, 1) := by decide +kernel
theorem dL_errorPosition_13 : decode cL_errorPosition 13 = .ok (.ireturn, 1) := by decide +kernel
theorem dL_errorPosition_14 : decode cL_errorPosition 14 = .ok (.iconst 0, 1) := by decide +kernel
theorem dL_errorPosition_15 : decode cL_errorPosition 15 = .ok (.ireturn, 1) := by decide +kernel
theorem dL_restore_0 : decode cL_restore 0 = .ok (.aload_n 1, 1) := by decide +kernel
theorem dL_restore_1 : decode cL_restore 1 = .ok (.iconst 0, 1) := by decide +kernel
theorem dL_restore_2 : decode cL_restore 2 = .ok (.aload_n 0, 1) := by decide +kernel
theorem dL_restore_3 : decode cL_restore 3 = .ok (.invokevirtual 131, 3) := by decide +kernel
theorem dL_restore_6 : decode cL_restore 6 = .ok (.i2l, 1) := by decide +kernel
theorem dL_restore_7 : decode cL_restore 7 = .ok (.lastore, 1) := by decide +kernel
theorem dL_restore_8 : decode cL_restore 8 = .ok (.goto 6, 3) := by decide +kernel
theorem dL_restore_11 : decode cL_restore 11 = .ok (.astore_n 2, 1) := by decide +kernel
theorem dL_restore_12 : decode cL_restore 12 = .ok (.iconst 1, 1) := by decide +kernel
theorem dL_restore_13 : decode cL_restore 13 = .ok (.ireturn, 1) := by decide +kernel
theorem dL_restore_14 : decode cL_restore 14 = .ok (.iconst 0, 1) := by decide +kernel
theorem dL_restore_15 : decode cL_restore 15 = .ok (.ireturn, 1) := by decide +kernel
