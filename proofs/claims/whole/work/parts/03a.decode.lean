/-! decode rows, printed by the kit for this class -/
theorem dX0_init_0 : decode cX0_init 0 = .ok (.aload_n 0, 1) := by decide +kernel
theorem dX0_init_1 : decode cX0_init 1 = .ok (.invokespecial 3, 3) := by decide +kernel
theorem dX0_init_4 : decode cX0_init 4 = .ok (.aload_n 0, 1) := by decide +kernel
theorem dX0_init_5 : decode cX0_init 5 = .ok (.bipush 31, 2) := by decide +kernel
theorem dX0_init_7 : decode cX0_init 7 = .ok (.newarray .long, 2) := by decide +kernel
theorem dX0_init_9 : decode cX0_init 9 = .ok (.putfield 9, 3) := by decide +kernel
theorem dX0_init_12 : decode cX0_init 12 = .ok (.aload_n 0, 1) := by decide +kernel
theorem dX0_init_13 : decode cX0_init 13 = .ok (.sipush 210, 3) := by decide +kernel
theorem dX0_init_16 : decode cX0_init 16 = .ok (.newarray .long, 2) := by decide +kernel
theorem dX0_init_18 : decode cX0_init 18 = .ok (.putfield 15, 3) := by decide +kernel
theorem dX0_init_21 : decode cX0_init 21 = .ok (.aload_n 0, 1) := by decide +kernel
theorem dX0_init_22 : decode cX0_init 22 = .ok (.bipush 31, 2) := by decide +kernel
theorem dX0_init_24 : decode cX0_init 24 = .ok (.newarray .long, 2) := by decide +kernel
theorem dX0_init_26 : decode cX0_init 26 = .ok (.putfield 18, 3) := by decide +kernel
theorem dX0_init_29 : decode cX0_init 29 = .ok (.aload_n 0, 1) := by decide +kernel
theorem dX0_init_30 : decode cX0_init 30 = .ok (.sipush 1240, 3) := by decide +kernel
theorem dX0_init_33 : decode cX0_init 33 = .ok (.newarray .int, 2) := by decide +kernel
theorem dX0_init_35 : decode cX0_init 35 = .ok (.putfield 21, 3) := by decide +kernel
theorem dX0_init_38 : decode cX0_init 38 = .ok (.aload_n 0, 1) := by decide +kernel
theorem dX0_init_39 : decode cX0_init 39 = .ok (.aload_n 1, 1) := by decide +kernel
theorem dX0_init_40 : decode cX0_init 40 = .ok (.putfield 25, 3) := by decide +kernel
theorem dX0_init_43 : decode cX0_init 43 = .ok (.return_, 1) := by decide +kernel
theorem dX0_begin_0 : decode cX0_begin 0 = .ok (.aload_n 1, 1) := by decide +kernel
theorem dX0_begin_1 : decode cX0_begin 1 = .ok (.aload_n 2, 1) := by decide +kernel
theorem dX0_begin_2 : decode cX0_begin 2 = .ok (.iload_n 3, 1) := by decide +kernel
theorem dX0_begin_3 : decode cX0_begin 3 = .ok (.invokevirtual 29, 3) := by decide +kernel
theorem dX0_begin_6 : decode cX0_begin 6 = .ok (.getfield 35, 3) := by decide +kernel
theorem dX0_begin_9 : decode cX0_begin 9 = .ok (.aload_n 2, 1) := by decide +kernel
theorem dX0_begin_10 : decode cX0_begin 10 = .ok (.getfield 41, 3) := by decide +kernel
theorem dX0_begin_13 : decode cX0_begin 13 = .ok (.invokevirtual 45, 3) := by decide +kernel
theorem dX0_begin_16 : decode cX0_begin 16 = .ok (.aload_n 2, 1) := by decide +kernel
theorem dX0_begin_17 : decode cX0_begin 17 = .ok (.getfield 41, 3) := by decide +kernel
theorem dX0_begin_20 : decode cX0_begin 20 = .ok (.invokevirtual 51, 3) := by decide +kernel
theorem dX0_begin_23 : decode cX0_begin 23 = .ok (.aload_n 0, 1) := by decide +kernel
theorem dX0_begin_24 : decode cX0_begin 24 = .ok (.getfield 9, 3) := by decide +kernel
theorem dX0_begin_27 : decode cX0_begin 27 = .ok (.aload_n 0, 1) := by decide +kernel
theorem dX0_begin_28 : decode cX0_begin 28 = .ok (.getfield 25, 3) := by decide +kernel
theorem dX0_begin_31 : decode cX0_begin 31 = .ok (.invokevirtual 55, 3) := by decide +kernel
theorem dX0_begin_34 : decode cX0_begin 34 = .ok (.invokestatic 61, 3) := by decide +kernel
theorem dX0_begin_37 : decode cX0_begin 37 = .ok (.aload_n 0, 1) := by decide +kernel
theorem dX0_begin_38 : decode cX0_begin 38 = .ok (.getfield 15, 3) := by decide +kernel
theorem dX0_begin_41 : decode cX0_begin 41 = .ok (.lconst 0, 1) := by decide +kernel
theorem dX0_begin_42 : decode cX0_begin 42 = .ok (.invokestatic 61, 3) := by decide +kernel
theorem dX0_begin_45 : decode cX0_begin 45 = .ok (.iconst 0, 1) := by decide +kernel
theorem dX0_begin_46 : decode cX0_begin 46 = .ok (.istore 5, 2) := by decide +kernel
theorem dX0_begin_48 : decode cX0_begin 48 = .ok (.iload 5, 2) := by decide +kernel
theorem dX0_begin_50 : decode cX0_begin 50 = .ok (.aload_n 2, 1) := by decide +kernel
theorem dX0_begin_51 : decode cX0_begin 51 = .ok (.getfield 65, 3) := by decide +kernel
theorem dX0_begin_54 : decode cX0_begin 54 = .ok (.if_icmp .ge 39, 3) := by decide +kernel
theorem dX0_begin_57 : decode cX0_begin 57 = .ok (.iload 5, 2) := by decide +kernel
theorem dX0_begin_59 : decode cX0_begin 59 = .ok (.iload_n 3, 1) := by decide +kernel
theorem dX0_begin_60 : decode cX0_begin 60 = .ok (.if_icmp .eq 27, 3) := by decide +kernel
theorem dX0_begin_63 : decode cX0_begin 63 = .ok (.iload 5, 2) := by decide +kernel
theorem dX0_begin_65 : decode cX0_begin 65 = .ok (.iload 4, 2) := by decide +kernel
theorem dX0_begin_67 : decode cX0_begin 67 = .ok (.if_icmp .eq 20, 3) := by decide +kernel
theorem dX0_begin_70 : decode cX0_begin 70 = .ok (.aload_n 0, 1) := by decide +kernel
theorem dX0_begin_71 : decode cX0_begin 71 = .ok (.aload_n 2, 1) := by decide +kernel
theorem dX0_begin_72 : decode cX0_begin 72 = .ok (.iload 5, 2) := by decide +kernel
theorem dX0_begin_74 : decode cX0_begin 74 = .ok (.invokevirtual 29, 3) := by decide +kernel
theorem dX0_begin_77 : decode cX0_begin 77 = .ok (.getfield 35, 3) := by decide +kernel
theorem dX0_begin_80 : decode cX0_begin 80 = .ok (.aload_n 2, 1) := by decide +kernel
theorem dX0_begin_81 : decode cX0_begin 81 = .ok (.getfield 41, 3) := by decide +kernel
theorem dX0_begin_84 : decode cX0_begin 84 = .ok (.invokevirtual 68, 3) := by decide +kernel
theorem dX0_begin_87 : decode cX0_begin 87 = .ok (.iinc 5 1, 3) := by decide +kernel
theorem dX0_begin_90 : decode cX0_begin 90 = .ok (.goto (-42), 3) := by decide +kernel
theorem dX0_begin_93 : decode cX0_begin 93 = .ok (.return_, 1) := by decide +kernel
theorem dX0_avoid_0 : decode cX0_avoid 0 = .ok (.iconst 0, 1) := by decide +kernel
theorem dX0_avoid_1 : decode cX0_avoid 1 = .ok (.istore_n 3, 1) := by decide +kernel
theorem dX0_avoid_2 : decode cX0_avoid 2 = .ok (.iload_n 3, 1) := by decide +kernel
theorem dX0_avoid_3 : decode cX0_avoid 3 = .ok (.bipush 30, 2) := by decide +kernel
theorem dX0_avoid_5 : decode cX0_avoid 5 = .ok (.if_icmp .gt 102, 3) := by decide +kernel
theorem dX0_avoid_8 : decode cX0_avoid 8 = .ok (.aload_n 0, 1) := by decide +kernel
theorem dX0_avoid_9 : decode cX0_avoid 9 = .ok (.getfield 9, 3) := by decide +kernel
theorem dX0_avoid_12 : decode cX0_avoid 12 = .ok (.iload_n 3, 1) := by decide +kernel
theorem dX0_avoid_13 : decode cX0_avoid 13 = .ok (.aload_n 1, 1) := by decide +kernel
theorem dX0_avoid_14 : decode cX0_avoid 14 = .ok (.iload_n 2, 1) := by decide +kernel
theorem dX0_avoid_15 : decode cX0_avoid 15 = .ok (.iload_n 3, 1) := by decide +kernel
theorem dX0_avoid_16 : decode cX0_avoid 16 = .ok (.iadd, 1) := by decide +kernel
theorem dX0_avoid_17 : decode cX0_avoid 17 = .ok (.invokevirtual 45, 3) := by decide +kernel
theorem dX0_avoid_20 : decode cX0_avoid 20 = .ok (.invokestatic 72, 3) := by decide +kernel
theorem dX0_avoid_23 : decode cX0_avoid 23 = .ok (.invokestatic 76, 3) := by decide +kernel
theorem dX0_avoid_26 : decode cX0_avoid 26 = .ok (.aload_n 1, 1) := by decide +kernel
theorem dX0_avoid_27 : decode cX0_avoid 27 = .ok (.iload_n 2, 1) := by decide +kernel
theorem dX0_avoid_28 : decode cX0_avoid 28 = .ok (.iload_n 3, 1) := by decide +kernel
theorem dX0_avoid_29 : decode cX0_avoid 29 = .ok (.iadd, 1) := by decide +kernel
theorem dX0_avoid_30 : decode cX0_avoid 30 = .ok (.invokevirtual 80, 3) := by decide +kernel
theorem dX0_avoid_33 : decode cX0_avoid 33 = .ok (.istore 4, 2) := by decide +kernel
theorem dX0_avoid_35 : decode cX0_avoid 35 = .ok (.iload 4, 2) := by decide +kernel
theorem dX0_avoid_37 : decode cX0_avoid 37 = .ok (.iconst 5, 1) := by decide +kernel
theorem dX0_avoid_38 : decode cX0_avoid 38 = .ok (.if_icmp .lt 13, 3) := by decide +kernel
theorem dX0_avoid_41 : decode cX0_avoid 41 = .ok (.aload_n 0, 1) := by decide +kernel
theorem dX0_avoid_42 : decode cX0_avoid 42 = .ok (.iload_n 3, 1) := by decide +kernel
theorem dX0_avoid_43 : decode cX0_avoid 43 = .ok (.iload 4, 2) := by decide +kernel
theorem dX0_avoid_45 : decode cX0_avoid 45 = .ok (.invokevirtual 83, 3) := by decide +kernel
theorem dX0_avoid_48 : decode cX0_avoid 48 = .ok (.goto 53, 3) := by decide +kernel
theorem dX0_avoid_51 : decode cX0_avoid 51 = .ok (.iload 4, 2) := by decide +kernel
theorem dX0_avoid_53 : decode cX0_avoid 53 = .ok (.ifCond .eq 48, 3) := by decide +kernel
theorem dX0_avoid_56 : decode cX0_avoid 56 = .ok (.iload 4, 2) := by decide +kernel
theorem dX0_avoid_58 : decode cX0_avoid 58 = .ok (.iconst 3, 1) := by decide +kernel
theorem dX0_avoid_59 : decode cX0_avoid 59 = .ok (.if_icmp .lt 10, 3) := by decide +kernel
theorem dX0_avoid_62 : decode cX0_avoid 62 = .ok (.iload 4, 2) := by decide +kernel
theorem dX0_avoid_64 : decode cX0_avoid 64 = .ok (.iconst 2, 1) := by decide +kernel
theorem dX0_avoid_65 : decode cX0_avoid 65 = .ok (.isub, 1) := by decide +kernel
theorem dX0_avoid_66 : decode cX0_avoid 66 = .ok (.goto 7, 3) := by decide +kernel
theorem dX0_avoid_69 : decode cX0_avoid 69 = .ok (.iload 4, 2) := by decide +kernel
theorem dX0_avoid_71 : decode cX0_avoid 71 = .ok (.iconst 2, 1) := by decide +kernel
theorem dX0_avoid_72 : decode cX0_avoid 72 = .ok (.iadd, 1) := by decide +kernel
theorem dX0_avoid_73 : decode cX0_avoid 73 = .ok (.istore 5, 2) := by decide +kernel
theorem dX0_avoid_75 : decode cX0_avoid 75 = .ok (.aload_n 0, 1) := by decide +kernel
theorem dX0_avoid_76 : decode cX0_avoid 76 = .ok (.getfield 15, 3) := by decide +kernel
theorem dX0_avoid_79 : decode cX0_avoid 79 = .ok (.iload_n 3, 1) := by decide +kernel
theorem dX0_avoid_80 : decode cX0_avoid 80 = .ok (.bipush 7, 2) := by decide +kernel
theorem dX0_avoid_82 : decode cX0_avoid 82 = .ok (.imul, 1) := by decide +kernel
theorem dX0_avoid_83 : decode cX0_avoid 83 = .ok (.iload 5, 2) := by decide +kernel
theorem dX0_avoid_85 : decode cX0_avoid 85 = .ok (.iadd, 1) := by decide +kernel
theorem dX0_avoid_86 : decode cX0_avoid 86 = .ok (.aload_n 1, 1) := by decide +kernel
theorem dX0_avoid_87 : decode cX0_avoid 87 = .ok (.iload_n 2, 1) := by decide +kernel
theorem dX0_avoid_88 : decode cX0_avoid 88 = .ok (.iload_n 3, 1) := by decide +kernel
theorem dX0_avoid_89 : decode cX0_avoid 89 = .ok (.iadd, 1) := by decide +kernel
theorem dX0_avoid_90 : decode cX0_avoid 90 = .ok (.iconst 1, 1) := by decide +kernel
theorem dX0_avoid_91 : decode cX0_avoid 91 = .ok (.iadd, 1) := by decide +kernel
theorem dX0_avoid_92 : decode cX0_avoid 92 = .ok (.invokevirtual 45, 3) := by decide +kernel
theorem dX0_avoid_95 : decode cX0_avoid 95 = .ok (.invokestatic 72, 3) := by decide +kernel
theorem dX0_avoid_98 : decode cX0_avoid 98 = .ok (.invokestatic 76, 3) := by decide +kernel
theorem dX0_avoid_101 : decode cX0_avoid 101 = .ok (.iinc 3 1, 3) := by decide +kernel
theorem dX0_avoid_104 : decode cX0_avoid 104 = .ok (.goto (-102), 3) := by decide +kernel
theorem dX0_avoid_107 : decode cX0_avoid 107 = .ok (.return_, 1) := by decide +kernel
theorem dX0_barRides_0 : decode cX0_barRides 0 = .ok (.iconst 0, 1) := by decide +kernel
theorem dX0_barRides_1 : decode cX0_barRides 1 = .ok (.iload_n 1, 1) := by decide +kernel
theorem dX0_barRides_2 : decode cX0_barRides 2 = .ok (.iconst 3, 1) := by decide +kernel
theorem dX0_barRides_3 : decode cX0_barRides 3 = .ok (.isub, 1) := by decide +kernel
theorem dX0_barRides_4 : decode cX0_barRides 4 = .ok (.iconst 1, 1) := by decide +kernel
theorem dX0_barRides_5 : decode cX0_barRides 5 = .ok (.iadd, 1) := by decide +kernel
theorem dX0_barRides_6 : decode cX0_barRides 6 = .ok (.invokestatic 86, 3) := by decide +kernel
theorem dX0_barRides_9 : decode cX0_barRides 9 = .ok (.istore_n 3, 1) := by decide +kernel
theorem dX0_barRides_10 : decode cX0_barRides 10 = .ok (.iload_n 3, 1) := by decide +kernel
theorem dX0_barRides_11 : decode cX0_barRides 11 = .ok (.iload_n 1, 1) := by decide +kernel
theorem dX0_barRides_12 : decode cX0_barRides 12 = .ok (.if_icmp .gt 25, 3) := by decide +kernel
theorem dX0_barRides_15 : decode cX0_barRides 15 = .ok (.aload_n 0, 1) := by decide +kernel
theorem dX0_barRides_16 : decode cX0_barRides 16 = .ok (.getfield 15, 3) := by decide +kernel
theorem dX0_barRides_19 : decode cX0_barRides 19 = .ok (.iload_n 3, 1) := by decide +kernel
theorem dX0_barRides_20 : decode cX0_barRides 20 = .ok (.bipush 7, 2) := by decide +kernel
theorem dX0_barRides_22 : decode cX0_barRides 22 = .ok (.imul, 1) := by decide +kernel
theorem dX0_barRides_23 : decode cX0_barRides 23 = .ok (.iload_n 2, 1) := by decide +kernel
theorem dX0_barRides_24 : decode cX0_barRides 24 = .ok (.iadd, 1) := by decide +kernel
theorem dX0_barRides_25 : decode cX0_barRides 25 = .ok (.ldc2_w 92, 3) := by decide +kernel
theorem dX0_barRides_28 : decode cX0_barRides 28 = .ok (.invokestatic 76, 3) := by decide +kernel
theorem dX0_barRides_31 : decode cX0_barRides 31 = .ok (.iinc 3 1, 3) := by decide +kernel
theorem dX0_barRides_34 : decode cX0_barRides 34 = .ok (.goto (-24), 3) := by decide +kernel
theorem dX0_barRides_37 : decode cX0_barRides 37 = .ok (.return_, 1) := by decide +kernel
theorem dX0_isClosed_0 : decode cX0_isClosed 0 = .ok (.aload_n 0, 1) := by decide +kernel
theorem dX0_isClosed_1 : decode cX0_isClosed 1 = .ok (.getfield 9, 3) := by decide +kernel
theorem dX0_isClosed_4 : decode cX0_isClosed 4 = .ok (.iload_n 2, 1) := by decide +kernel
theorem dX0_isClosed_5 : decode cX0_isClosed 5 = .ok (.invokestatic 94, 3) := by decide +kernel
theorem dX0_isClosed_8 : decode cX0_isClosed 8 = .ok (.iload_n 1, 1) := by decide +kernel
theorem dX0_isClosed_9 : decode cX0_isClosed 9 = .ok (.invokestatic 72, 3) := by decide +kernel
theorem dX0_isClosed_12 : decode cX0_isClosed 12 = .ok (.land, 1) := by decide +kernel
theorem dX0_isClosed_13 : decode cX0_isClosed 13 = .ok (.lconst 0, 1) := by decide +kernel
theorem dX0_isClosed_14 : decode cX0_isClosed 14 = .ok (.lcmp, 1) := by decide +kernel
theorem dX0_isClosed_15 : decode cX0_isClosed 15 = .ok (.ifCond .eq 7, 3) := by decide +kernel
theorem dX0_isClosed_18 : decode cX0_isClosed 18 = .ok (.iconst 1, 1) := by decide +kernel
theorem dX0_isClosed_19 : decode cX0_isClosed 19 = .ok (.goto 4, 3) := by decide +kernel
theorem dX0_isClosed_22 : decode cX0_isClosed 22 = .ok (.iconst 0, 1) := by decide +kernel
theorem dX0_isClosed_23 : decode cX0_isClosed 23 = .ok (.ireturn, 1) := by decide +kernel
theorem dX0_extend_0 : decode cX0_extend 0 = .ok (.aload_n 1, 1) := by decide +kernel
theorem dX0_extend_1 : decode cX0_extend 1 = .ok (.getfield 98, 3) := by decide +kernel
theorem dX0_extend_4 : decode cX0_extend 4 = .ok (.istore 4, 2) := by decide +kernel
theorem dX0_extend_6 : decode cX0_extend 6 = .ok (.aload_n 0, 1) := by decide +kernel
theorem dX0_extend_7 : decode cX0_extend 7 = .ok (.aload_n 1, 1) := by decide +kernel
theorem dX0_extend_8 : decode cX0_extend 8 = .ok (.iload_n 2, 1) := by decide +kernel
theorem dX0_extend_9 : decode cX0_extend 9 = .ok (.iload_n 3, 1) := by decide +kernel
theorem dX0_extend_10 : decode cX0_extend 10 = .ok (.invokevirtual 101, 3) := by decide +kernel
theorem dX0_extend_13 : decode cX0_extend 13 = .ok (.istore 5, 2) := by decide +kernel
theorem dX0_extend_15 : decode cX0_extend 15 = .ok (.iload 5, 2) := by decide +kernel
theorem dX0_extend_17 : decode cX0_extend 17 = .ok (.ifCond .ge 5, 3) := by decide +kernel
theorem dX0_extend_20 : decode cX0_extend 20 = .ok (.iconst 0, 1) := by decide +kernel
theorem dX0_extend_21 : decode cX0_extend 21 = .ok (.ireturn, 1) := by decide +kernel
theorem dX0_extend_22 : decode cX0_extend 22 = .ok (.aload_n 0, 1) := by decide +kernel
theorem dX0_extend_23 : decode cX0_extend 23 = .ok (.iload_n 2, 1) := by decide +kernel
theorem dX0_extend_24 : decode cX0_extend 24 = .ok (.iload 4, 2) := by decide +kernel
theorem dX0_extend_26 : decode cX0_extend 26 = .ok (.iload 5, 2) := by decide +kernel
theorem dX0_extend_28 : decode cX0_extend 28 = .ok (.invokevirtual 105, 3) := by decide +kernel
theorem dX0_extend_31 : decode cX0_extend 31 = .ok (.aload_n 0, 1) := by decide +kernel
theorem dX0_extend_32 : decode cX0_extend 32 = .ok (.aload_n 1, 1) := by decide +kernel
theorem dX0_extend_33 : decode cX0_extend 33 = .ok (.iload 5, 2) := by decide +kernel
theorem dX0_extend_35 : decode cX0_extend 35 = .ok (.invokevirtual 109, 3) := by decide +kernel
theorem dX0_extend_38 : decode cX0_extend 38 = .ok (.iconst 1, 1) := by decide +kernel
theorem dX0_extend_39 : decode cX0_extend 39 = .ok (.ireturn, 1) := by decide +kernel
theorem dX0_endOf_0 : decode cX0_endOf 0 = .ok (.aload_n 1, 1) := by decide +kernel
theorem dX0_endOf_1 : decode cX0_endOf 1 = .ok (.getfield 98, 3) := by decide +kernel
theorem dX0_endOf_4 : decode cX0_endOf 4 = .ok (.istore 4, 2) := by decide +kernel
theorem dX0_endOf_6 : decode cX0_endOf 6 = .ok (.aload_n 0, 1) := by decide +kernel
theorem dX0_endOf_7 : decode cX0_endOf 7 = .ok (.aload_n 1, 1) := by decide +kernel
theorem dX0_endOf_8 : decode cX0_endOf 8 = .ok (.invokevirtual 112, 3) := by decide +kernel
theorem dX0_endOf_11 : decode cX0_endOf 11 = .ok (.iload 4, 2) := by decide +kernel
theorem dX0_endOf_13 : decode cX0_endOf 13 = .ok (.invokevirtual 116, 3) := by decide +kernel
theorem dX0_endOf_16 : decode cX0_endOf 16 = .ok (.iconst 0, 1) := by decide +kernel
theorem dX0_endOf_17 : decode cX0_endOf 17 = .ok (.istore 5, 2) := by decide +kernel
theorem dX0_endOf_19 : decode cX0_endOf 19 = .ok (.iload_n 3, 1) := by decide +kernel
theorem dX0_endOf_20 : decode cX0_endOf 20 = .ok (.ifCond .eq 37, 3) := by decide +kernel
theorem dX0_endOf_23 : decode cX0_endOf 23 = .ok (.iload 5, 2) := by decide +kernel
theorem dX0_endOf_25 : decode cX0_endOf 25 = .ok (.bipush 30, 2) := by decide +kernel
theorem dX0_endOf_27 : decode cX0_endOf 27 = .ok (.if_icmp .gt 30, 3) := by decide +kernel
theorem dX0_endOf_30 : decode cX0_endOf 30 = .ok (.aload_n 0, 1) := by decide +kernel
theorem dX0_endOf_31 : decode cX0_endOf 31 = .ok (.iload_n 2, 1) := by decide +kernel
theorem dX0_endOf_32 : decode cX0_endOf 32 = .ok (.iload 5, 2) := by decide +kernel
theorem dX0_endOf_34 : decode cX0_endOf 34 = .ok (.invokevirtual 119, 3) := by decide +kernel
theorem dX0_endOf_37 : decode cX0_endOf 37 = .ok (.ifCond .eq 14, 3) := by decide +kernel
theorem dX0_endOf_40 : decode cX0_endOf 40 = .ok (.iload 4, 2) := by decide +kernel
theorem dX0_endOf_42 : decode cX0_endOf 42 = .ok (.iload 5, 2) := by decide +kernel
theorem dX0_endOf_44 : decode cX0_endOf 44 = .ok (.iconst 1, 1) := by decide +kernel
theorem dX0_endOf_45 : decode cX0_endOf 45 = .ok (.iadd, 1) := by decide +kernel
theorem dX0_endOf_46 : decode cX0_endOf 46 = .ok (.invokestatic 86, 3) := by decide +kernel
theorem dX0_endOf_49 : decode cX0_endOf 49 = .ok (.istore 4, 2) := by decide +kernel
theorem dX0_endOf_51 : decode cX0_endOf 51 = .ok (.iinc 5 1, 3) := by decide +kernel
theorem dX0_endOf_54 : decode cX0_endOf 54 = .ok (.goto (-35), 3) := by decide +kernel
theorem dX0_endOf_57 : decode cX0_endOf 57 = .ok (.iload 4, 2) := by decide +kernel
theorem dX0_endOf_59 : decode cX0_endOf 59 = .ok (.istore 5, 2) := by decide +kernel
theorem dX0_endOf_61 : decode cX0_endOf 61 = .ok (.iload 5, 2) := by decide +kernel
theorem dX0_endOf_63 : decode cX0_endOf 63 = .ok (.bipush 30, 2) := by decide +kernel
theorem dX0_endOf_65 : decode cX0_endOf 65 = .ok (.if_icmp .gt 31, 3) := by decide +kernel
theorem dX0_endOf_68 : decode cX0_endOf 68 = .ok (.aload_n 0, 1) := by decide +kernel
theorem dX0_endOf_69 : decode cX0_endOf 69 = .ok (.getfield 18, 3) := by decide +kernel
theorem dX0_endOf_72 : decode cX0_endOf 72 = .ok (.iload 5, 2) := by decide +kernel
theorem dX0_endOf_74 : decode cX0_endOf 74 = .ok (.invokestatic 94, 3) := by decide +kernel
theorem dX0_endOf_77 : decode cX0_endOf 77 = .ok (.iload_n 2, 1) := by decide +kernel
theorem dX0_endOf_78 : decode cX0_endOf 78 = .ok (.invokestatic 72, 3) := by decide +kernel
theorem dX0_endOf_81 : decode cX0_endOf 81 = .ok (.land, 1) := by decide +kernel
theorem dX0_endOf_82 : decode cX0_endOf 82 = .ok (.lconst 0, 1) := by decide +kernel
theorem dX0_endOf_83 : decode cX0_endOf 83 = .ok (.lcmp, 1) := by decide +kernel
theorem dX0_endOf_84 : decode cX0_endOf 84 = .ok (.ifCond .eq 6, 3) := by decide +kernel
theorem dX0_endOf_87 : decode cX0_endOf 87 = .ok (.iload 5, 2) := by decide +kernel
theorem dX0_endOf_89 : decode cX0_endOf 89 = .ok (.ireturn, 1) := by decide +kernel
theorem dX0_endOf_90 : decode cX0_endOf 90 = .ok (.iinc 5 1, 3) := by decide +kernel
theorem dX0_endOf_93 : decode cX0_endOf 93 = .ok (.goto (-32), 3) := by decide +kernel
theorem dX0_endOf_96 : decode cX0_endOf 96 = .ok (.iconst (-1), 1) := by decide +kernel
theorem dX0_endOf_97 : decode cX0_endOf 97 = .ok (.ireturn, 1) := by decide +kernel
theorem dX0_spread_0 : decode cX0_spread 0 = .ok (.aload_n 0, 1) := by decide +kernel
theorem dX0_spread_1 : decode cX0_spread 1 = .ok (.getfield 18, 3) := by decide +kernel
theorem dX0_spread_4 : decode cX0_spread 4 = .ok (.lconst 0, 1) := by decide +kernel
theorem dX0_spread_5 : decode cX0_spread 5 = .ok (.invokestatic 61, 3) := by decide +kernel
theorem dX0_spread_8 : decode cX0_spread 8 = .ok (.aload_n 0, 1) := by decide +kernel
theorem dX0_spread_9 : decode cX0_spread 9 = .ok (.getfield 18, 3) := by decide +kernel
theorem dX0_spread_12 : decode cX0_spread 12 = .ok (.iload_n 2, 1) := by decide +kernel
theorem dX0_spread_13 : decode cX0_spread 13 = .ok (.iload_n 1, 1) := by decide +kernel
theorem dX0_spread_14 : decode cX0_spread 14 = .ok (.invokestatic 72, 3) := by decide +kernel
theorem dX0_spread_17 : decode cX0_spread 17 = .ok (.invokestatic 76, 3) := by decide +kernel
theorem dX0_spread_20 : decode cX0_spread 20 = .ok (.iload_n 2, 1) := by decide +kernel
theorem dX0_spread_21 : decode cX0_spread 21 = .ok (.istore_n 3, 1) := by decide +kernel
theorem dX0_spread_22 : decode cX0_spread 22 = .ok (.iload_n 3, 1) := by decide +kernel
theorem dX0_spread_23 : decode cX0_spread 23 = .ok (.bipush 30, 2) := by decide +kernel
theorem dX0_spread_25 : decode cX0_spread 25 = .ok (.if_icmp .ge 244, 3) := by decide +kernel
theorem dX0_spread_28 : decode cX0_spread 28 = .ok (.aload_n 0, 1) := by decide +kernel
theorem dX0_spread_29 : decode cX0_spread 29 = .ok (.getfield 18, 3) := by decide +kernel
theorem dX0_spread_32 : decode cX0_spread 32 = .ok (.iload_n 3, 1) := by decide +kernel
theorem dX0_spread_33 : decode cX0_spread 33 = .ok (.invokestatic 94, 3) := by decide +kernel
theorem dX0_spread_36 : decode cX0_spread 36 = .ok (.lstore 4, 2) := by decide +kernel
theorem dX0_spread_38 : decode cX0_spread 38 = .ok (.lload 4, 2) := by decide +kernel
theorem dX0_spread_40 : decode cX0_spread 40 = .ok (.lstore 6, 2) := by decide +kernel
theorem dX0_spread_42 : decode cX0_spread 42 = .ok (.iconst 1, 1) := by decide +kernel
theorem dX0_spread_43 : decode cX0_spread 43 = .ok (.istore 8, 2) := by decide +kernel
theorem dX0_spread_45 : decode cX0_spread 45 = .ok (.iload 8, 2) := by decide +kernel
theorem dX0_spread_47 : decode cX0_spread 47 = .ok (.iconst 4, 1) := by decide +kernel
theorem dX0_spread_48 : decode cX0_spread 48 = .ok (.if_icmp .gt 40, 3) := by decide +kernel
theorem dX0_spread_51 : decode cX0_spread 51 = .ok (.lload 6, 2) := by decide +kernel
theorem dX0_spread_53 : decode cX0_spread 53 = .ok (.lload 4, 2) := by decide +kernel
theorem dX0_spread_55 : decode cX0_spread 55 = .ok (.aload_n 0, 1) := by decide +kernel
theorem dX0_spread_56 : decode cX0_spread 56 = .ok (.getfield 15, 3) := by decide +kernel
theorem dX0_spread_59 : decode cX0_spread 59 = .ok (.iload_n 3, 1) := by decide +kernel
theorem dX0_spread_60 : decode cX0_spread 60 = .ok (.bipush 7, 2) := by decide +kernel
theorem dX0_spread_62 : decode cX0_spread 62 = .ok (.imul, 1) := by decide +kernel
theorem dX0_spread_63 : decode cX0_spread 63 = .ok (.iload 8, 2) := by decide +kernel
theorem dX0_spread_65 : decode cX0_spread 65 = .ok (.iadd, 1) := by decide +kernel
theorem dX0_spread_66 : decode cX0_spread 66 = .ok (.invokestatic 94, 3) := by decide +kernel
theorem dX0_spread_69 : decode cX0_spread 69 = .ok (.ldc2_w 123, 3) := by decide +kernel
theorem dX0_spread_72 : decode cX0_spread 72 = .ok (.lxor, 1) := by decide +kernel
theorem dX0_spread_73 : decode cX0_spread 73 = .ok (.land, 1) := by decide +kernel
theorem dX0_spread_74 : decode cX0_spread 74 = .ok (.iload 8, 2) := by decide +kernel
theorem dX0_spread_76 : decode cX0_spread 76 = .ok (.invokestatic 125, 3) := by decide +kernel
theorem dX0_spread_79 : decode cX0_spread 79 = .ok (.lor, 1) := by decide +kernel
theorem dX0_spread_80 : decode cX0_spread 80 = .ok (.lstore 6, 2) := by decide +kernel
theorem dX0_spread_82 : decode cX0_spread 82 = .ok (.iinc 8 1, 3) := by decide +kernel
theorem dX0_spread_85 : decode cX0_spread 85 = .ok (.goto (-40), 3) := by decide +kernel
theorem dX0_spread_88 : decode cX0_spread 88 = .ok (.aload_n 0, 1) := by decide +kernel
theorem dX0_spread_89 : decode cX0_spread 89 = .ok (.getfield 18, 3) := by decide +kernel
theorem dX0_spread_92 : decode cX0_spread 92 = .ok (.iload_n 3, 1) := by decide +kernel
theorem dX0_spread_93 : decode cX0_spread 93 = .ok (.iconst 1, 1) := by decide +kernel
theorem dX0_spread_94 : decode cX0_spread 94 = .ok (.iadd, 1) := by decide +kernel
theorem dX0_spread_95 : decode cX0_spread 95 = .ok (.lload 6, 2) := by decide +kernel
theorem dX0_spread_97 : decode cX0_spread 97 = .ok (.aload_n 0, 1) := by decide +kernel
theorem dX0_spread_98 : decode cX0_spread 98 = .ok (.getfield 9, 3) := by decide +kernel
theorem dX0_spread_101 : decode cX0_spread 101 = .ok (.iload_n 3, 1) := by decide +kernel
theorem dX0_spread_102 : decode cX0_spread 102 = .ok (.iconst 1, 1) := by decide +kernel
theorem dX0_spread_103 : decode cX0_spread 103 = .ok (.iadd, 1) := by decide +kernel
theorem dX0_spread_104 : decode cX0_spread 104 = .ok (.invokestatic 94, 3) := by decide +kernel
theorem dX0_spread_107 : decode cX0_spread 107 = .ok (.ldc2_w 123, 3) := by decide +kernel
theorem dX0_spread_110 : decode cX0_spread 110 = .ok (.lxor, 1) := by decide +kernel
theorem dX0_spread_111 : decode cX0_spread 111 = .ok (.land, 1) := by decide +kernel
theorem dX0_spread_112 : decode cX0_spread 112 = .ok (.invokestatic 76, 3) := by decide +kernel
theorem dX0_spread_115 : decode cX0_spread 115 = .ok (.iconst 0, 1) := by decide +kernel
theorem dX0_spread_116 : decode cX0_spread 116 = .ok (.istore 8, 2) := by decide +kernel
theorem dX0_spread_118 : decode cX0_spread 118 = .ok (.iload 8, 2) := by decide +kernel
theorem dX0_spread_120 : decode cX0_spread 120 = .ok (.aload_n 0, 1) := by decide +kernel
theorem dX0_spread_121 : decode cX0_spread 121 = .ok (.getfield 25, 3) := by decide +kernel
theorem dX0_spread_124 : decode cX0_spread 124 = .ok (.getfield 129, 3) := by decide +kernel
theorem dX0_spread_127 : decode cX0_spread 127 = .ok (.if_icmp .ge 136, 3) := by decide +kernel
theorem dX0_spread_130 : decode cX0_spread 130 = .ok (.lload 4, 2) := by decide +kernel
theorem dX0_spread_132 : decode cX0_spread 132 = .ok (.aload_n 0, 1) := by decide +kernel
theorem dX0_spread_133 : decode cX0_spread 133 = .ok (.getfield 15, 3) := by decide +kernel
theorem dX0_spread_136 : decode cX0_spread 136 = .ok (.iload_n 3, 1) := by decide +kernel
theorem dX0_spread_137 : decode cX0_spread 137 = .ok (.bipush 7, 2) := by decide +kernel
theorem dX0_spread_139 : decode cX0_spread 139 = .ok (.imul, 1) := by decide +kernel
theorem dX0_spread_140 : decode cX0_spread 140 = .ok (.iconst 5, 1) := by decide +kernel
theorem dX0_spread_141 : decode cX0_spread 141 = .ok (.iadd, 1) := by decide +kernel
theorem dX0_spread_142 : decode cX0_spread 142 = .ok (.iload 8, 2) := by decide +kernel
theorem dX0_spread_144 : decode cX0_spread 144 = .ok (.iadd, 1) := by decide +kernel
theorem dX0_spread_145 : decode cX0_spread 145 = .ok (.invokestatic 94, 3) := by decide +kernel
theorem dX0_spread_148 : decode cX0_spread 148 = .ok (.ldc2_w 123, 3) := by decide +kernel
theorem dX0_spread_151 : decode cX0_spread 151 = .ok (.lxor, 1) := by decide +kernel
theorem dX0_spread_152 : decode cX0_spread 152 = .ok (.land, 1) := by decide +kernel
theorem dX0_spread_153 : decode cX0_spread 153 = .ok (.lstore 9, 2) := by decide +kernel
theorem dX0_spread_155 : decode cX0_spread 155 = .ok (.aload_n 0, 1) := by decide +kernel
theorem dX0_spread_156 : decode cX0_spread 156 = .ok (.getfield 25, 3) := by decide +kernel
theorem dX0_spread_159 : decode cX0_spread 159 = .ok (.getfield 132, 3) := by decide +kernel
theorem dX0_spread_162 : decode cX0_spread 162 = .ok (.iconst 2, 1) := by decide +kernel
theorem dX0_spread_163 : decode cX0_spread 163 = .ok (.iload 8, 2) := by decide +kernel
theorem dX0_spread_165 : decode cX0_spread 165 = .ok (.imul, 1) := by decide +kernel
theorem dX0_spread_166 : decode cX0_spread 166 = .ok (.invokestatic 135, 3) := by decide +kernel
theorem dX0_spread_169 : decode cX0_spread 169 = .ok (.invokestatic 72, 3) := by decide +kernel
theorem dX0_spread_172 : decode cX0_spread 172 = .ok (.lstore 11, 2) := by decide +kernel
theorem dX0_spread_174 : decode cX0_spread 174 = .ok (.aload_n 0, 1) := by decide +kernel
theorem dX0_spread_175 : decode cX0_spread 175 = .ok (.getfield 25, 3) := by decide +kernel
theorem dX0_spread_178 : decode cX0_spread 178 = .ok (.getfield 132, 3) := by decide +kernel
theorem dX0_spread_181 : decode cX0_spread 181 = .ok (.iconst 2, 1) := by decide +kernel
theorem dX0_spread_182 : decode cX0_spread 182 = .ok (.iload 8, 2) := by decide +kernel
theorem dX0_spread_184 : decode cX0_spread 184 = .ok (.imul, 1) := by decide +kernel
theorem dX0_spread_185 : decode cX0_spread 185 = .ok (.iconst 1, 1) := by decide +kernel
theorem dX0_spread_186 : decode cX0_spread 186 = .ok (.iadd, 1) := by decide +kernel
theorem dX0_spread_187 : decode cX0_spread 187 = .ok (.invokestatic 135, 3) := by decide +kernel
theorem dX0_spread_190 : decode cX0_spread 190 = .ok (.invokestatic 72, 3) := by decide +kernel
theorem dX0_spread_193 : decode cX0_spread 193 = .ok (.lstore 13, 2) := by decide +kernel
theorem dX0_spread_195 : decode cX0_spread 195 = .ok (.lload 9, 2) := by decide +kernel
theorem dX0_spread_197 : decode cX0_spread 197 = .ok (.lload 11, 2) := by decide +kernel
theorem dX0_spread_199 : decode cX0_spread 199 = .ok (.land, 1) := by decide +kernel
theorem dX0_spread_200 : decode cX0_spread 200 = .ok (.lconst 0, 1) := by decide +kernel
theorem dX0_spread_201 : decode cX0_spread 201 = .ok (.lcmp, 1) := by decide +kernel
theorem dX0_spread_202 : decode cX0_spread 202 = .ok (.ifCond .eq 8, 3) := by decide +kernel
theorem dX0_spread_205 : decode cX0_spread 205 = .ok (.lload 13, 2) := by decide +kernel
theorem dX0_spread_207 : decode cX0_spread 207 = .ok (.goto 4, 3) := by decide +kernel
theorem dX0_spread_210 : decode cX0_spread 210 = .ok (.lconst 0, 1) := by decide +kernel
theorem dX0_spread_211 : decode cX0_spread 211 = .ok (.lload 9, 2) := by decide +kernel
theorem dX0_spread_213 : decode cX0_spread 213 = .ok (.lload 13, 2) := by decide +kernel
theorem dX0_spread_215 : decode cX0_spread 215 = .ok (.land, 1) := by decide +kernel
theorem dX0_spread_216 : decode cX0_spread 216 = .ok (.lconst 0, 1) := by decide +kernel
theorem dX0_spread_217 : decode cX0_spread 217 = .ok (.lcmp, 1) := by decide +kernel
theorem dX0_spread_218 : decode cX0_spread 218 = .ok (.ifCond .eq 8, 3) := by decide +kernel
theorem dX0_spread_221 : decode cX0_spread 221 = .ok (.lload 11, 2) := by decide +kernel
theorem dX0_spread_223 : decode cX0_spread 223 = .ok (.goto 4, 3) := by decide +kernel
theorem dX0_spread_226 : decode cX0_spread 226 = .ok (.lconst 0, 1) := by decide +kernel
theorem dX0_spread_227 : decode cX0_spread 227 = .ok (.lor, 1) := by decide +kernel
theorem dX0_spread_228 : decode cX0_spread 228 = .ok (.lstore 15, 2) := by decide +kernel
theorem dX0_spread_230 : decode cX0_spread 230 = .ok (.aload_n 0, 1) := by decide +kernel
theorem dX0_spread_231 : decode cX0_spread 231 = .ok (.getfield 18, 3) := by decide +kernel
theorem dX0_spread_234 : decode cX0_spread 234 = .ok (.iload_n 3, 1) := by decide +kernel
theorem dX0_spread_235 : decode cX0_spread 235 = .ok (.iconst 3, 1) := by decide +kernel
theorem dX0_spread_236 : decode cX0_spread 236 = .ok (.iadd, 1) := by decide +kernel
theorem dX0_spread_237 : decode cX0_spread 237 = .ok (.lload 15, 2) := by decide +kernel
theorem dX0_spread_239 : decode cX0_spread 239 = .ok (.aload_n 0, 1) := by decide +kernel
theorem dX0_spread_240 : decode cX0_spread 240 = .ok (.getfield 9, 3) := by decide +kernel
theorem dX0_spread_243 : decode cX0_spread 243 = .ok (.iload_n 3, 1) := by decide +kernel
theorem dX0_spread_244 : decode cX0_spread 244 = .ok (.iconst 3, 1) := by decide +kernel
theorem dX0_spread_245 : decode cX0_spread 245 = .ok (.iadd, 1) := by decide +kernel
theorem dX0_spread_246 : decode cX0_spread 246 = .ok (.invokestatic 94, 3) := by decide +kernel
theorem dX0_spread_249 : decode cX0_spread 249 = .ok (.ldc2_w 123, 3) := by decide +kernel
theorem dX0_spread_252 : decode cX0_spread 252 = .ok (.lxor, 1) := by decide +kernel
theorem dX0_spread_253 : decode cX0_spread 253 = .ok (.land, 1) := by decide +kernel
theorem dX0_spread_254 : decode cX0_spread 254 = .ok (.invokestatic 76, 3) := by decide +kernel
theorem dX0_spread_257 : decode cX0_spread 257 = .ok (.iinc 8 1, 3) := by decide +kernel
theorem dX0_spread_260 : decode cX0_spread 260 = .ok (.goto (-142), 3) := by decide +kernel
theorem dX0_spread_263 : decode cX0_spread 263 = .ok (.iinc 3 1, 3) := by decide +kernel
theorem dX0_spread_266 : decode cX0_spread 266 = .ok (.goto (-244), 3) := by decide +kernel
theorem dX0_spread_269 : decode cX0_spread 269 = .ok (.return_, 1) := by decide +kernel
theorem dX0_countCosts_0 : decode cX0_countCosts 0 = .ok (.iconst 0, 1) := by decide +kernel
theorem dX0_countCosts_1 : decode cX0_countCosts 1 = .ok (.istore 4, 2) := by decide +kernel
theorem dX0_countCosts_3 : decode cX0_countCosts 3 = .ok (.iload 4, 2) := by decide +kernel
theorem dX0_countCosts_5 : decode cX0_countCosts 5 = .ok (.bipush 40, 2) := by decide +kernel
theorem dX0_countCosts_7 : decode cX0_countCosts 7 = .ok (.if_icmp .ge 35, 3) := by decide +kernel
theorem dX0_countCosts_10 : decode cX0_countCosts 10 = .ok (.aload_n 0, 1) := by decide +kernel
theorem dX0_countCosts_11 : decode cX0_countCosts 11 = .ok (.getfield 21, 3) := by decide +kernel
theorem dX0_countCosts_14 : decode cX0_countCosts 14 = .ok (.iload_n 3, 1) := by decide +kernel
theorem dX0_countCosts_15 : decode cX0_countCosts 15 = .ok (.bipush 40, 2) := by decide +kernel
theorem dX0_countCosts_17 : decode cX0_countCosts 17 = .ok (.imul, 1) := by decide +kernel
theorem dX0_countCosts_18 : decode cX0_countCosts 18 = .ok (.iload 4, 2) := by decide +kernel
theorem dX0_countCosts_20 : decode cX0_countCosts 20 = .ok (.iadd, 1) := by decide +kernel
theorem dX0_countCosts_21 : decode cX0_countCosts 21 = .ok (.iload 4, 2) := by decide +kernel
theorem dX0_countCosts_23 : decode cX0_countCosts 23 = .ok (.iload_n 1, 1) := by decide +kernel
theorem dX0_countCosts_24 : decode cX0_countCosts 24 = .ok (.if_icmp .ne 7, 3) := by decide +kernel
theorem dX0_countCosts_27 : decode cX0_countCosts 27 = .ok (.iconst 0, 1) := by decide +kernel
theorem dX0_countCosts_28 : decode cX0_countCosts 28 = .ok (.goto 5, 3) := by decide +kernel
theorem dX0_countCosts_31 : decode cX0_countCosts 31 = .ok (.ldc 139, 2) := by decide +kernel
theorem dX0_countCosts_33 : decode cX0_countCosts 33 = .ok (.invokestatic 140, 3) := by decide +kernel
theorem dX0_countCosts_36 : decode cX0_countCosts 36 = .ok (.iinc 4 1, 3) := by decide +kernel
theorem dX0_countCosts_39 : decode cX0_countCosts 39 = .ok (.goto (-36), 3) := by decide +kernel
theorem dX0_countCosts_42 : decode cX0_countCosts 42 = .ok (.iload_n 3, 1) := by decide +kernel
theorem dX0_countCosts_43 : decode cX0_countCosts 43 = .ok (.iconst 1, 1) := by decide +kernel
theorem dX0_countCosts_44 : decode cX0_countCosts 44 = .ok (.isub, 1) := by decide +kernel
theorem dX0_countCosts_45 : decode cX0_countCosts 45 = .ok (.istore 4, 2) := by decide +kernel
theorem dX0_countCosts_47 : decode cX0_countCosts 47 = .ok (.iload 4, 2) := by decide +kernel
theorem dX0_countCosts_49 : decode cX0_countCosts 49 = .ok (.iload_n 2, 1) := by decide +kernel
theorem dX0_countCosts_50 : decode cX0_countCosts 50 = .ok (.if_icmp .lt 104, 3) := by decide +kernel
theorem dX0_countCosts_53 : decode cX0_countCosts 53 = .ok (.aload_n 0, 1) := by decide +kernel
theorem dX0_countCosts_54 : decode cX0_countCosts 54 = .ok (.getfield 18, 3) := by decide +kernel
theorem dX0_countCosts_57 : decode cX0_countCosts 57 = .ok (.iload 4, 2) := by decide +kernel
theorem dX0_countCosts_59 : decode cX0_countCosts 59 = .ok (.invokestatic 94, 3) := by decide +kernel
theorem dX0_countCosts_62 : decode cX0_countCosts 62 = .ok (.lstore 5, 2) := by decide +kernel
theorem dX0_countCosts_64 : decode cX0_countCosts 64 = .ok (.iconst 0, 1) := by decide +kernel
theorem dX0_countCosts_65 : decode cX0_countCosts 65 = .ok (.istore 7, 2) := by decide +kernel
theorem dX0_countCosts_67 : decode cX0_countCosts 67 = .ok (.iload 7, 2) := by decide +kernel
theorem dX0_countCosts_69 : decode cX0_countCosts 69 = .ok (.bipush 40, 2) := by decide +kernel
theorem dX0_countCosts_71 : decode cX0_countCosts 71 = .ok (.if_icmp .ge 77, 3) := by decide +kernel
theorem dX0_countCosts_74 : decode cX0_countCosts 74 = .ok (.ldc 139, 2) := by decide +kernel
theorem dX0_countCosts_76 : decode cX0_countCosts 76 = .ok (.istore 8, 2) := by decide +kernel
theorem dX0_countCosts_78 : decode cX0_countCosts 78 = .ok (.iconst 0, 1) := by decide +kernel
theorem dX0_countCosts_79 : decode cX0_countCosts 79 = .ok (.istore 9, 2) := by decide +kernel
theorem dX0_countCosts_81 : decode cX0_countCosts 81 = .ok (.lload 5, 2) := by decide +kernel
theorem dX0_countCosts_83 : decode cX0_countCosts 83 = .ok (.iload 7, 2) := by decide +kernel
theorem dX0_countCosts_85 : decode cX0_countCosts 85 = .ok (.invokestatic 72, 3) := by decide +kernel
theorem dX0_countCosts_88 : decode cX0_countCosts 88 = .ok (.land, 1) := by decide +kernel
theorem dX0_countCosts_89 : decode cX0_countCosts 89 = .ok (.lconst 0, 1) := by decide +kernel
theorem dX0_countCosts_90 : decode cX0_countCosts 90 = .ok (.lcmp, 1) := by decide +kernel
theorem dX0_countCosts_91 : decode cX0_countCosts 91 = .ok (.ifCond .eq 34, 3) := by decide +kernel
theorem dX0_countCosts_94 : decode cX0_countCosts 94 = .ok (.iload 9, 2) := by decide +kernel
theorem dX0_countCosts_96 : decode cX0_countCosts 96 = .ok (.bipush 7, 2) := by decide +kernel
theorem dX0_countCosts_98 : decode cX0_countCosts 98 = .ok (.if_icmp .ge 27, 3) := by decide +kernel
theorem dX0_countCosts_101 : decode cX0_countCosts 101 = .ok (.iload 8, 2) := by decide +kernel
theorem dX0_countCosts_103 : decode cX0_countCosts 103 = .ok (.aload_n 0, 1) := by decide +kernel
theorem dX0_countCosts_104 : decode cX0_countCosts 104 = .ok (.iload 4, 2) := by decide +kernel
theorem dX0_countCosts_106 : decode cX0_countCosts 106 = .ok (.iload 7, 2) := by decide +kernel
theorem dX0_countCosts_108 : decode cX0_countCosts 108 = .ok (.iload 9, 2) := by decide +kernel
theorem dX0_countCosts_110 : decode cX0_countCosts 110 = .ok (.iload_n 3, 1) := by decide +kernel
theorem dX0_countCosts_111 : decode cX0_countCosts 111 = .ok (.invokevirtual 144, 3) := by decide +kernel
theorem dX0_countCosts_114 : decode cX0_countCosts 114 = .ok (.invokestatic 148, 3) := by decide +kernel
theorem dX0_countCosts_117 : decode cX0_countCosts 117 = .ok (.istore 8, 2) := by decide +kernel
theorem dX0_countCosts_119 : decode cX0_countCosts 119 = .ok (.iinc 9 1, 3) := by decide +kernel
theorem dX0_countCosts_122 : decode cX0_countCosts 122 = .ok (.goto (-41), 3) := by decide +kernel
theorem dX0_countCosts_125 : decode cX0_countCosts 125 = .ok (.aload_n 0, 1) := by decide +kernel
theorem dX0_countCosts_126 : decode cX0_countCosts 126 = .ok (.getfield 21, 3) := by decide +kernel
theorem dX0_countCosts_129 : decode cX0_countCosts 129 = .ok (.iload 4, 2) := by decide +kernel
theorem dX0_countCosts_131 : decode cX0_countCosts 131 = .ok (.bipush 40, 2) := by decide +kernel
theorem dX0_countCosts_133 : decode cX0_countCosts 133 = .ok (.imul, 1) := by decide +kernel
theorem dX0_countCosts_134 : decode cX0_countCosts 134 = .ok (.iload 7, 2) := by decide +kernel
theorem dX0_countCosts_136 : decode cX0_countCosts 136 = .ok (.iadd, 1) := by decide +kernel
theorem dX0_countCosts_137 : decode cX0_countCosts 137 = .ok (.iload 8, 2) := by decide +kernel
theorem dX0_countCosts_139 : decode cX0_countCosts 139 = .ok (.invokestatic 140, 3) := by decide +kernel
theorem dX0_countCosts_142 : decode cX0_countCosts 142 = .ok (.iinc 7 1, 3) := by decide +kernel
theorem dX0_countCosts_145 : decode cX0_countCosts 145 = .ok (.goto (-78), 3) := by decide +kernel
theorem dX0_countCosts_148 : decode cX0_countCosts 148 = .ok (.iinc 4 (-1), 3) := by decide +kernel
theorem dX0_countCosts_151 : decode cX0_countCosts 151 = .ok (.goto (-104), 3) := by decide +kernel
theorem dX0_countCosts_154 : decode cX0_countCosts 154 = .ok (.return_, 1) := by decide +kernel
theorem dX0_costThrough_0 : decode cX0_costThrough 0 = .ok (.aload_n 0, 1) := by decide +kernel
theorem dX0_costThrough_1 : decode cX0_costThrough 1 = .ok (.getfield 25, 3) := by decide +kernel
theorem dX0_costThrough_4 : decode cX0_costThrough 4 = .ok (.getfield 151, 3) := by decide +kernel
theorem dX0_costThrough_7 : decode cX0_costThrough 7 = .ok (.iload_n 2, 1) := by decide +kernel
theorem dX0_costThrough_8 : decode cX0_costThrough 8 = .ok (.bipush 7, 2) := by decide +kernel
theorem dX0_costThrough_10 : decode cX0_costThrough 10 = .ok (.imul, 1) := by decide +kernel
theorem dX0_costThrough_11 : decode cX0_costThrough 11 = .ok (.iload_n 3, 1) := by decide +kernel
theorem dX0_costThrough_12 : decode cX0_costThrough 12 = .ok (.iadd, 1) := by decide +kernel
theorem dX0_costThrough_13 : decode cX0_costThrough 13 = .ok (.invokestatic 135, 3) := by decide +kernel
theorem dX0_costThrough_16 : decode cX0_costThrough 16 = .ok (.istore 5, 2) := by decide +kernel
theorem dX0_costThrough_18 : decode cX0_costThrough 18 = .ok (.iload_n 1, 1) := by decide +kernel
theorem dX0_costThrough_19 : decode cX0_costThrough 19 = .ok (.iload_n 3, 1) := by decide +kernel
theorem dX0_costThrough_20 : decode cX0_costThrough 20 = .ok (.invokestatic 154, 3) := by decide +kernel
theorem dX0_costThrough_23 : decode cX0_costThrough 23 = .ok (.iadd, 1) := by decide +kernel
theorem dX0_costThrough_24 : decode cX0_costThrough 24 = .ok (.istore 6, 2) := by decide +kernel
theorem dX0_costThrough_26 : decode cX0_costThrough 26 = .ok (.iload 5, 2) := by decide +kernel
theorem dX0_costThrough_28 : decode cX0_costThrough 28 = .ok (.ifCond .lt 10, 3) := by decide +kernel
theorem dX0_costThrough_31 : decode cX0_costThrough 31 = .ok (.iload 6, 2) := by decide +kernel
theorem dX0_costThrough_33 : decode cX0_costThrough 33 = .ok (.iload 4, 2) := by decide +kernel
theorem dX0_costThrough_35 : decode cX0_costThrough 35 = .ok (.if_icmp .le 6, 3) := by decide +kernel
theorem dX0_costThrough_38 : decode cX0_costThrough 38 = .ok (.ldc 139, 2) := by decide +kernel
theorem dX0_costThrough_40 : decode cX0_costThrough 40 = .ok (.ireturn, 1) := by decide +kernel
theorem dX0_costThrough_41 : decode cX0_costThrough 41 = .ok (.aload_n 0, 1) := by decide +kernel
theorem dX0_costThrough_42 : decode cX0_costThrough 42 = .ok (.getfield 21, 3) := by decide +kernel
theorem dX0_costThrough_45 : decode cX0_costThrough 45 = .ok (.iload 6, 2) := by decide +kernel
theorem dX0_costThrough_47 : decode cX0_costThrough 47 = .ok (.bipush 40, 2) := by decide +kernel
theorem dX0_costThrough_49 : decode cX0_costThrough 49 = .ok (.imul, 1) := by decide +kernel
theorem dX0_costThrough_50 : decode cX0_costThrough 50 = .ok (.iload 5, 2) := by decide +kernel
theorem dX0_costThrough_52 : decode cX0_costThrough 52 = .ok (.iadd, 1) := by decide +kernel
theorem dX0_costThrough_53 : decode cX0_costThrough 53 = .ok (.invokestatic 135, 3) := by decide +kernel
theorem dX0_costThrough_56 : decode cX0_costThrough 56 = .ok (.istore 7, 2) := by decide +kernel
theorem dX0_costThrough_58 : decode cX0_costThrough 58 = .ok (.iload 7, 2) := by decide +kernel
theorem dX0_costThrough_60 : decode cX0_costThrough 60 = .ok (.ldc 139, 2) := by decide +kernel
theorem dX0_costThrough_62 : decode cX0_costThrough 62 = .ok (.if_icmp .ge 26, 3) := by decide +kernel
theorem dX0_costThrough_65 : decode cX0_costThrough 65 = .ok (.aload_n 0, 1) := by decide +kernel
theorem dX0_costThrough_66 : decode cX0_costThrough 66 = .ok (.getfield 15, 3) := by decide +kernel
theorem dX0_costThrough_69 : decode cX0_costThrough 69 = .ok (.iload_n 1, 1) := by decide +kernel
theorem dX0_costThrough_70 : decode cX0_costThrough 70 = .ok (.bipush 7, 2) := by decide +kernel
theorem dX0_costThrough_72 : decode cX0_costThrough 72 = .ok (.imul, 1) := by decide +kernel
theorem dX0_costThrough_73 : decode cX0_costThrough 73 = .ok (.iload_n 3, 1) := by decide +kernel
theorem dX0_costThrough_74 : decode cX0_costThrough 74 = .ok (.iadd, 1) := by decide +kernel
theorem dX0_costThrough_75 : decode cX0_costThrough 75 = .ok (.invokestatic 94, 3) := by decide +kernel
theorem dX0_costThrough_78 : decode cX0_costThrough 78 = .ok (.iload_n 2, 1) := by decide +kernel
theorem dX0_costThrough_79 : decode cX0_costThrough 79 = .ok (.invokestatic 72, 3) := by decide +kernel
theorem dX0_costThrough_82 : decode cX0_costThrough 82 = .ok (.land, 1) := by decide +kernel
theorem dX0_costThrough_83 : decode cX0_costThrough 83 = .ok (.lconst 0, 1) := by decide +kernel
theorem dX0_costThrough_84 : decode cX0_costThrough 84 = .ok (.lcmp, 1) := by decide +kernel
theorem dX0_costThrough_85 : decode cX0_costThrough 85 = .ok (.ifCond .eq 6, 3) := by decide +kernel
theorem dX0_costThrough_88 : decode cX0_costThrough 88 = .ok (.ldc 139, 2) := by decide +kernel
theorem dX0_costThrough_90 : decode cX0_costThrough 90 = .ok (.ireturn, 1) := by decide +kernel
theorem dX0_costThrough_91 : decode cX0_costThrough 91 = .ok (.iload_n 3, 1) := by decide +kernel
theorem dX0_costThrough_92 : decode cX0_costThrough 92 = .ok (.invokestatic 157, 3) := by decide +kernel
theorem dX0_costThrough_95 : decode cX0_costThrough 95 = .ok (.iload 7, 2) := by decide +kernel
theorem dX0_costThrough_97 : decode cX0_costThrough 97 = .ok (.iadd, 1) := by decide +kernel
theorem dX0_costThrough_98 : decode cX0_costThrough 98 = .ok (.ireturn, 1) := by decide +kernel
theorem dX0_walk_0 : decode cX0_walk 0 = .ok (.iconst 0, 1) := by decide +kernel
theorem dX0_walk_1 : decode cX0_walk 1 = .ok (.istore_n 3, 1) := by decide +kernel
theorem dX0_walk_2 : decode cX0_walk 2 = .ok (.iload_n 3, 1) := by decide +kernel
theorem dX0_walk_3 : decode cX0_walk 3 = .ok (.bipush 30, 2) := by decide +kernel
theorem dX0_walk_5 : decode cX0_walk 5 = .ok (.if_icmp .ge 102, 3) := by decide +kernel
theorem dX0_walk_8 : decode cX0_walk 8 = .ok (.aload_n 1, 1) := by decide +kernel
theorem dX0_walk_9 : decode cX0_walk 9 = .ok (.getfield 98, 3) := by decide +kernel
theorem dX0_walk_12 : decode cX0_walk 12 = .ok (.iload_n 2, 1) := by decide +kernel
theorem dX0_walk_13 : decode cX0_walk 13 = .ok (.if_icmp .ge 94, 3) := by decide +kernel
theorem dX0_walk_16 : decode cX0_walk 16 = .ok (.aload_n 1, 1) := by decide +kernel
theorem dX0_walk_17 : decode cX0_walk 17 = .ok (.getfield 98, 3) := by decide +kernel
theorem dX0_walk_20 : decode cX0_walk 20 = .ok (.istore 4, 2) := by decide +kernel
theorem dX0_walk_22 : decode cX0_walk 22 = .ok (.aload_n 1, 1) := by decide +kernel
theorem dX0_walk_23 : decode cX0_walk 23 = .ok (.invokevirtual 112, 3) := by decide +kernel
theorem dX0_walk_26 : decode cX0_walk 26 = .ok (.istore 5, 2) := by decide +kernel
theorem dX0_walk_28 : decode cX0_walk 28 = .ok (.iconst 0, 1) := by decide +kernel
theorem dX0_walk_29 : decode cX0_walk 29 = .ok (.istore 6, 2) := by decide +kernel
theorem dX0_walk_31 : decode cX0_walk 31 = .ok (.aload_n 0, 1) := by decide +kernel
theorem dX0_walk_32 : decode cX0_walk 32 = .ok (.getfield 21, 3) := by decide +kernel
theorem dX0_walk_35 : decode cX0_walk 35 = .ok (.iload 4, 2) := by decide +kernel
theorem dX0_walk_37 : decode cX0_walk 37 = .ok (.bipush 40, 2) := by decide +kernel
theorem dX0_walk_39 : decode cX0_walk 39 = .ok (.imul, 1) := by decide +kernel
theorem dX0_walk_40 : decode cX0_walk 40 = .ok (.iload 5, 2) := by decide +kernel
theorem dX0_walk_42 : decode cX0_walk 42 = .ok (.iadd, 1) := by decide +kernel
theorem dX0_walk_43 : decode cX0_walk 43 = .ok (.invokestatic 135, 3) := by decide +kernel
theorem dX0_walk_46 : decode cX0_walk 46 = .ok (.istore 7, 2) := by decide +kernel
theorem dX0_walk_48 : decode cX0_walk 48 = .ok (.iload 6, 2) := by decide +kernel
theorem dX0_walk_50 : decode cX0_walk 50 = .ok (.bipush 6, 2) := by decide +kernel
theorem dX0_walk_52 : decode cX0_walk 52 = .ok (.if_icmp .ge 25, 3) := by decide +kernel
theorem dX0_walk_55 : decode cX0_walk 55 = .ok (.aload_n 0, 1) := by decide +kernel
theorem dX0_walk_56 : decode cX0_walk 56 = .ok (.iload 4, 2) := by decide +kernel
theorem dX0_walk_58 : decode cX0_walk 58 = .ok (.iload 5, 2) := by decide +kernel
theorem dX0_walk_60 : decode cX0_walk 60 = .ok (.iload 6, 2) := by decide +kernel
theorem dX0_walk_62 : decode cX0_walk 62 = .ok (.iload_n 2, 1) := by decide +kernel
theorem dX0_walk_63 : decode cX0_walk 63 = .ok (.invokevirtual 144, 3) := by decide +kernel
theorem dX0_walk_66 : decode cX0_walk 66 = .ok (.iload 7, 2) := by decide +kernel
theorem dX0_walk_68 : decode cX0_walk 68 = .ok (.if_icmp .le 9, 3) := by decide +kernel
theorem dX0_walk_71 : decode cX0_walk 71 = .ok (.iinc 6 1, 3) := by decide +kernel
theorem dX0_walk_74 : decode cX0_walk 74 = .ok (.goto (-26), 3) := by decide +kernel
theorem dX0_walk_77 : decode cX0_walk 77 = .ok (.aload_n 1, 1) := by decide +kernel
theorem dX0_walk_78 : decode cX0_walk 78 = .ok (.iload 6, 2) := by decide +kernel
theorem dX0_walk_80 : decode cX0_walk 80 = .ok (.aload_n 0, 1) := by decide +kernel
theorem dX0_walk_81 : decode cX0_walk 81 = .ok (.getfield 25, 3) := by decide +kernel
theorem dX0_walk_84 : decode cX0_walk 84 = .ok (.getfield 151, 3) := by decide +kernel
theorem dX0_walk_87 : decode cX0_walk 87 = .ok (.iload 5, 2) := by decide +kernel
theorem dX0_walk_89 : decode cX0_walk 89 = .ok (.bipush 7, 2) := by decide +kernel
theorem dX0_walk_91 : decode cX0_walk 91 = .ok (.imul, 1) := by decide +kernel
theorem dX0_walk_92 : decode cX0_walk 92 = .ok (.iload 6, 2) := by decide +kernel
theorem dX0_walk_94 : decode cX0_walk 94 = .ok (.iadd, 1) := by decide +kernel
theorem dX0_walk_95 : decode cX0_walk 95 = .ok (.invokestatic 135, 3) := by decide +kernel
theorem dX0_walk_98 : decode cX0_walk 98 = .ok (.invokevirtual 160, 3) := by decide +kernel
theorem dX0_walk_101 : decode cX0_walk 101 = .ok (.iinc 3 1, 3) := by decide +kernel
theorem dX0_walk_104 : decode cX0_walk 104 = .ok (.goto (-102), 3) := by decide +kernel
theorem dX0_walk_107 : decode cX0_walk 107 = .ok (.return_, 1) := by decide +kernel
theorem dX1_init_0 : decode cX1_init 0 = .ok (.aload_n 0, 1) := by decide +kernel
theorem dX1_init_1 : decode cX1_init 1 = .ok (.invokespecial 3, 3) := by decide +kernel
theorem dX1_init_4 : decode cX1_init 4 = .ok (.aload_n 0, 1) := by decide +kernel
theorem dX1_init_5 : decode cX1_init 5 = .ok (.bipush 40, 2) := by decide +kernel
theorem dX1_init_7 : decode cX1_init 7 = .ok (.newarray .int, 2) := by decide +kernel
theorem dX1_init_9 : decode cX1_init 9 = .ok (.putfield 9, 3) := by decide +kernel
theorem dX1_init_12 : decode cX1_init 12 = .ok (.aload_n 0, 1) := by decide +kernel
theorem dX1_init_13 : decode cX1_init 13 = .ok (.sipush 280, 3) := by decide +kernel
theorem dX1_init_16 : decode cX1_init 16 = .ok (.newarray .int, 2) := by decide +kernel
theorem dX1_init_18 : decode cX1_init 18 = .ok (.putfield 15, 3) := by decide +kernel
theorem dX1_init_21 : decode cX1_init 21 = .ok (.aload_n 0, 1) := by decide +kernel
theorem dX1_init_22 : decode cX1_init 22 = .ok (.iconst 4, 1) := by decide +kernel
theorem dX1_init_23 : decode cX1_init 23 = .ok (.newarray .int, 2) := by decide +kernel
theorem dX1_init_25 : decode cX1_init 25 = .ok (.putfield 18, 3) := by decide +kernel
theorem dX1_init_28 : decode cX1_init 28 = .ok (.aload_n 0, 1) := by decide +kernel
theorem dX1_init_29 : decode cX1_init 29 = .ok (.bipush 40, 2) := by decide +kernel
theorem dX1_init_31 : decode cX1_init 31 = .ok (.newarray .int, 2) := by decide +kernel
theorem dX1_init_33 : decode cX1_init 33 = .ok (.putfield 21, 3) := by decide +kernel
theorem dX1_init_36 : decode cX1_init 36 = .ok (.aload_n 0, 1) := by decide +kernel
theorem dX1_init_37 : decode cX1_init 37 = .ok (.invokevirtual 24, 3) := by decide +kernel
theorem dX1_init_40 : decode cX1_init 40 = .ok (.return_, 1) := by decide +kernel
theorem dX1_empty_0 : decode cX1_empty 0 = .ok (.aload_n 0, 1) := by decide +kernel
theorem dX1_empty_1 : decode cX1_empty 1 = .ok (.getfield 9, 3) := by decide +kernel
theorem dX1_empty_4 : decode cX1_empty 4 = .ok (.iconst 0, 1) := by decide +kernel
theorem dX1_empty_5 : decode cX1_empty 5 = .ok (.invokestatic 27, 3) := by decide +kernel
theorem dX1_empty_8 : decode cX1_empty 8 = .ok (.aload_n 0, 1) := by decide +kernel
theorem dX1_empty_9 : decode cX1_empty 9 = .ok (.getfield 18, 3) := by decide +kernel
theorem dX1_empty_12 : decode cX1_empty 12 = .ok (.iconst (-1), 1) := by decide +kernel
theorem dX1_empty_13 : decode cX1_empty 13 = .ok (.invokestatic 27, 3) := by decide +kernel
theorem dX1_empty_16 : decode cX1_empty 16 = .ok (.aload_n 0, 1) := by decide +kernel
theorem dX1_empty_17 : decode cX1_empty 17 = .ok (.iconst 0, 1) := by decide +kernel
theorem dX1_empty_18 : decode cX1_empty 18 = .ok (.putfield 31, 3) := by decide +kernel
theorem dX1_empty_21 : decode cX1_empty 21 = .ok (.iconst 0, 1) := by decide +kernel
theorem dX1_empty_22 : decode cX1_empty 22 = .ok (.istore_n 1, 1) := by decide +kernel
theorem dX1_empty_23 : decode cX1_empty 23 = .ok (.iload_n 1, 1) := by decide +kernel
theorem dX1_empty_24 : decode cX1_empty 24 = .ok (.bipush 40, 2) := by decide +kernel
theorem dX1_empty_26 : decode cX1_empty 26 = .ok (.if_icmp .ge 49, 3) := by decide +kernel
theorem dX1_empty_29 : decode cX1_empty 29 = .ok (.iconst 0, 1) := by decide +kernel
theorem dX1_empty_30 : decode cX1_empty 30 = .ok (.istore_n 2, 1) := by decide +kernel
theorem dX1_empty_31 : decode cX1_empty 31 = .ok (.iload_n 2, 1) := by decide +kernel
theorem dX1_empty_32 : decode cX1_empty 32 = .ok (.bipush 7, 2) := by decide +kernel
theorem dX1_empty_34 : decode cX1_empty 34 = .ok (.if_icmp .ge 35, 3) := by decide +kernel
theorem dX1_empty_37 : decode cX1_empty 37 = .ok (.aload_n 0, 1) := by decide +kernel
theorem dX1_empty_38 : decode cX1_empty 38 = .ok (.getfield 15, 3) := by decide +kernel
theorem dX1_empty_41 : decode cX1_empty 41 = .ok (.iload_n 1, 1) := by decide +kernel
theorem dX1_empty_42 : decode cX1_empty 42 = .ok (.bipush 7, 2) := by decide +kernel
theorem dX1_empty_44 : decode cX1_empty 44 = .ok (.imul, 1) := by decide +kernel
theorem dX1_empty_45 : decode cX1_empty 45 = .ok (.iload_n 2, 1) := by decide +kernel
theorem dX1_empty_46 : decode cX1_empty 46 = .ok (.iadd, 1) := by decide +kernel
theorem dX1_empty_47 : decode cX1_empty 47 = .ok (.iload_n 2, 1) := by decide +kernel
theorem dX1_empty_48 : decode cX1_empty 48 = .ok (.ifCond .ne 7, 3) := by decide +kernel
theorem dX1_empty_51 : decode cX1_empty 51 = .ok (.iload_n 1, 1) := by decide +kernel
theorem dX1_empty_52 : decode cX1_empty 52 = .ok (.goto 8, 3) := by decide +kernel
theorem dX1_empty_55 : decode cX1_empty 55 = .ok (.iload_n 1, 1) := by decide +kernel
theorem dX1_empty_56 : decode cX1_empty 56 = .ok (.iload_n 2, 1) := by decide +kernel
theorem dX1_empty_57 : decode cX1_empty 57 = .ok (.invokestatic 35, 3) := by decide +kernel
theorem dX1_empty_60 : decode cX1_empty 60 = .ok (.invokestatic 39, 3) := by decide +kernel
theorem dX1_empty_63 : decode cX1_empty 63 = .ok (.iinc 2 1, 3) := by decide +kernel
theorem dX1_empty_66 : decode cX1_empty 66 = .ok (.goto (-35), 3) := by decide +kernel
theorem dX1_empty_69 : decode cX1_empty 69 = .ok (.iinc 1 1, 3) := by decide +kernel
theorem dX1_empty_72 : decode cX1_empty 72 = .ok (.goto (-49), 3) := by decide +kernel
theorem dX1_empty_75 : decode cX1_empty 75 = .ok (.return_, 1) := by decide +kernel
theorem dX1_copyFrom_0 : decode cX1_copyFrom 0 = .ok (.aload_n 1, 1) := by decide +kernel
theorem dX1_copyFrom_1 : decode cX1_copyFrom 1 = .ok (.getfield 9, 3) := by decide +kernel
theorem dX1_copyFrom_4 : decode cX1_copyFrom 4 = .ok (.aload_n 0, 1) := by decide +kernel
theorem dX1_copyFrom_5 : decode cX1_copyFrom 5 = .ok (.getfield 9, 3) := by decide +kernel
theorem dX1_copyFrom_8 : decode cX1_copyFrom 8 = .ok (.invokestatic 43, 3) := by decide +kernel
theorem dX1_copyFrom_11 : decode cX1_copyFrom 11 = .ok (.aload_n 1, 1) := by decide +kernel
theorem dX1_copyFrom_12 : decode cX1_copyFrom 12 = .ok (.getfield 15, 3) := by decide +kernel
theorem dX1_copyFrom_15 : decode cX1_copyFrom 15 = .ok (.aload_n 0, 1) := by decide +kernel
theorem dX1_copyFrom_16 : decode cX1_copyFrom 16 = .ok (.getfield 15, 3) := by decide +kernel
theorem dX1_copyFrom_19 : decode cX1_copyFrom 19 = .ok (.invokestatic 43, 3) := by decide +kernel
theorem dX1_copyFrom_22 : decode cX1_copyFrom 22 = .ok (.aload_n 1, 1) := by decide +kernel
theorem dX1_copyFrom_23 : decode cX1_copyFrom 23 = .ok (.getfield 18, 3) := by decide +kernel
theorem dX1_copyFrom_26 : decode cX1_copyFrom 26 = .ok (.aload_n 0, 1) := by decide +kernel
theorem dX1_copyFrom_27 : decode cX1_copyFrom 27 = .ok (.getfield 18, 3) := by decide +kernel
theorem dX1_copyFrom_30 : decode cX1_copyFrom 30 = .ok (.invokestatic 43, 3) := by decide +kernel
theorem dX1_copyFrom_33 : decode cX1_copyFrom 33 = .ok (.aload_n 0, 1) := by decide +kernel
theorem dX1_copyFrom_34 : decode cX1_copyFrom 34 = .ok (.aload_n 1, 1) := by decide +kernel
theorem dX1_copyFrom_35 : decode cX1_copyFrom 35 = .ok (.getfield 31, 3) := by decide +kernel
theorem dX1_copyFrom_38 : decode cX1_copyFrom 38 = .ok (.putfield 31, 3) := by decide +kernel
theorem dX1_copyFrom_41 : decode cX1_copyFrom 41 = .ok (.return_, 1) := by decide +kernel
theorem dX1_isWall_0 : decode cX1_isWall 0 = .ok (.aload_n 0, 1) := by decide +kernel
theorem dX1_isWall_1 : decode cX1_isWall 1 = .ok (.getfield 9, 3) := by decide +kernel
theorem dX1_isWall_4 : decode cX1_isWall 4 = .ok (.iload_n 1, 1) := by decide +kernel
theorem dX1_isWall_5 : decode cX1_isWall 5 = .ok (.invokestatic 47, 3) := by decide +kernel
theorem dX1_isWall_8 : decode cX1_isWall 8 = .ok (.iconst 1, 1) := by decide +kernel
theorem dX1_isWall_9 : decode cX1_isWall 9 = .ok (.if_icmp .ne 7, 3) := by decide +kernel
theorem dX1_isWall_12 : decode cX1_isWall 12 = .ok (.iconst 1, 1) := by decide +kernel
theorem dX1_isWall_13 : decode cX1_isWall 13 = .ok (.goto 4, 3) := by decide +kernel
theorem dX1_isWall_16 : decode cX1_isWall 16 = .ok (.iconst 0, 1) := by decide +kernel
theorem dX1_isWall_17 : decode cX1_isWall 17 = .ok (.ireturn, 1) := by decide +kernel
theorem dX1_isLiftEnd_0 : decode cX1_isLiftEnd 0 = .ok (.iconst 0, 1) := by decide +kernel
theorem dX1_isLiftEnd_1 : decode cX1_isLiftEnd 1 = .ok (.istore_n 2, 1) := by decide +kernel
theorem dX1_isLiftEnd_2 : decode cX1_isLiftEnd 2 = .ok (.iload_n 2, 1) := by decide +kernel
theorem dX1_isLiftEnd_3 : decode cX1_isLiftEnd 3 = .ok (.iconst 2, 1) := by decide +kernel
theorem dX1_isLiftEnd_4 : decode cX1_isLiftEnd 4 = .ok (.aload_n 0, 1) := by decide +kernel
theorem dX1_isLiftEnd_5 : decode cX1_isLiftEnd 5 = .ok (.getfield 31, 3) := by decide +kernel
theorem dX1_isLiftEnd_8 : decode cX1_isLiftEnd 8 = .ok (.imul, 1) := by decide +kernel
theorem dX1_isLiftEnd_9 : decode cX1_isLiftEnd 9 = .ok (.if_icmp .ge 23, 3) := by decide +kernel
theorem dX1_isLiftEnd_12 : decode cX1_isLiftEnd 12 = .ok (.aload_n 0, 1) := by decide +kernel
theorem dX1_isLiftEnd_13 : decode cX1_isLiftEnd 13 = .ok (.getfield 18, 3) := by decide +kernel
theorem dX1_isLiftEnd_16 : decode cX1_isLiftEnd 16 = .ok (.iload_n 2, 1) := by decide +kernel
theorem dX1_isLiftEnd_17 : decode cX1_isLiftEnd 17 = .ok (.invokestatic 47, 3) := by decide +kernel
theorem dX1_isLiftEnd_20 : decode cX1_isLiftEnd 20 = .ok (.iload_n 1, 1) := by decide +kernel
theorem dX1_isLiftEnd_21 : decode cX1_isLiftEnd 21 = .ok (.if_icmp .ne 5, 3) := by decide +kernel
theorem dX1_isLiftEnd_24 : decode cX1_isLiftEnd 24 = .ok (.iconst 1, 1) := by decide +kernel
theorem dX1_isLiftEnd_25 : decode cX1_isLiftEnd 25 = .ok (.ireturn, 1) := by decide +kernel
theorem dX1_isLiftEnd_26 : decode cX1_isLiftEnd 26 = .ok (.iinc 2 1, 3) := by decide +kernel
theorem dX1_isLiftEnd_29 : decode cX1_isLiftEnd 29 = .ok (.goto (-27), 3) := by decide +kernel
theorem dX1_isLiftEnd_32 : decode cX1_isLiftEnd 32 = .ok (.iconst 0, 1) := by decide +kernel
theorem dX1_isLiftEnd_33 : decode cX1_isLiftEnd 33 = .ok (.ireturn, 1) := by decide +kernel
theorem dX1_addLiftBetween_0 : decode cX1_addLiftBetween 0 = .ok (.aload_n 0, 1) := by decide +kernel
theorem dX1_addLiftBetween_1 : decode cX1_addLiftBetween 1 = .ok (.getfield 18, 3) := by decide +kernel
theorem dX1_addLiftBetween_4 : decode cX1_addLiftBetween 4 = .ok (.iconst 2, 1) := by decide +kernel
theorem dX1_addLiftBetween_5 : decode cX1_addLiftBetween 5 = .ok (.aload_n 0, 1) := by decide +kernel
theorem dX1_addLiftBetween_6 : decode cX1_addLiftBetween 6 = .ok (.getfield 31, 3) := by decide +kernel
theorem dX1_addLiftBetween_9 : decode cX1_addLiftBetween 9 = .ok (.imul, 1) := by decide +kernel
theorem dX1_addLiftBetween_10 : decode cX1_addLiftBetween 10 = .ok (.iload_n 1, 1) := by decide +kernel
theorem dX1_addLiftBetween_11 : decode cX1_addLiftBetween 11 = .ok (.invokestatic 39, 3) := by decide +kernel
theorem dX1_addLiftBetween_14 : decode cX1_addLiftBetween 14 = .ok (.aload_n 0, 1) := by decide +kernel
theorem dX1_addLiftBetween_15 : decode cX1_addLiftBetween 15 = .ok (.getfield 18, 3) := by decide +kernel
theorem dX1_addLiftBetween_18 : decode cX1_addLiftBetween 18 = .ok (.iconst 2, 1) := by decide +kernel
theorem dX1_addLiftBetween_19 : decode cX1_addLiftBetween 19 = .ok (.aload_n 0, 1) := by decide +kernel
theorem dX1_addLiftBetween_20 : decode cX1_addLiftBetween 20 = .ok (.getfield 31, 3) := by decide +kernel
theorem dX1_addLiftBetween_23 : decode cX1_addLiftBetween 23 = .ok (.imul, 1) := by decide +kernel
theorem dX1_addLiftBetween_24 : decode cX1_addLiftBetween 24 = .ok (.iconst 1, 1) := by decide +kernel
theorem dX1_addLiftBetween_25 : decode cX1_addLiftBetween 25 = .ok (.iadd, 1) := by decide +kernel
theorem dX1_addLiftBetween_26 : decode cX1_addLiftBetween 26 = .ok (.iload_n 2, 1) := by decide +kernel
theorem dX1_addLiftBetween_27 : decode cX1_addLiftBetween 27 = .ok (.invokestatic 39, 3) := by decide +kernel
theorem dX1_addLiftBetween_30 : decode cX1_addLiftBetween 30 = .ok (.aload_n 0, 1) := by decide +kernel
theorem dX1_addLiftBetween_31 : decode cX1_addLiftBetween 31 = .ok (.getfield 15, 3) := by decide +kernel
theorem dX1_addLiftBetween_34 : decode cX1_addLiftBetween 34 = .ok (.iload_n 1, 1) := by decide +kernel
theorem dX1_addLiftBetween_35 : decode cX1_addLiftBetween 35 = .ok (.bipush 7, 2) := by decide +kernel
theorem dX1_addLiftBetween_37 : decode cX1_addLiftBetween 37 = .ok (.imul, 1) := by decide +kernel
theorem dX1_addLiftBetween_38 : decode cX1_addLiftBetween 38 = .ok (.iconst 5, 1) := by decide +kernel
theorem dX1_addLiftBetween_39 : decode cX1_addLiftBetween 39 = .ok (.iadd, 1) := by decide +kernel
theorem dX1_addLiftBetween_40 : decode cX1_addLiftBetween 40 = .ok (.aload_n 0, 1) := by decide +kernel
theorem dX1_addLiftBetween_41 : decode cX1_addLiftBetween 41 = .ok (.getfield 31, 3) := by decide +kernel
theorem dX1_addLiftBetween_44 : decode cX1_addLiftBetween 44 = .ok (.iadd, 1) := by decide +kernel
theorem dX1_addLiftBetween_45 : decode cX1_addLiftBetween 45 = .ok (.iload_n 2, 1) := by decide +kernel
theorem dX1_addLiftBetween_46 : decode cX1_addLiftBetween 46 = .ok (.invokestatic 39, 3) := by decide +kernel
theorem dX1_addLiftBetween_49 : decode cX1_addLiftBetween 49 = .ok (.aload_n 0, 1) := by decide +kernel
theorem dX1_addLiftBetween_50 : decode cX1_addLiftBetween 50 = .ok (.getfield 15, 3) := by decide +kernel
theorem dX1_addLiftBetween_53 : decode cX1_addLiftBetween 53 = .ok (.iload_n 2, 1) := by decide +kernel
theorem dX1_addLiftBetween_54 : decode cX1_addLiftBetween 54 = .ok (.bipush 7, 2) := by decide +kernel
theorem dX1_addLiftBetween_56 : decode cX1_addLiftBetween 56 = .ok (.imul, 1) := by decide +kernel
theorem dX1_addLiftBetween_57 : decode cX1_addLiftBetween 57 = .ok (.iconst 5, 1) := by decide +kernel
theorem dX1_addLiftBetween_58 : decode cX1_addLiftBetween 58 = .ok (.iadd, 1) := by decide +kernel
theorem dX1_addLiftBetween_59 : decode cX1_addLiftBetween 59 = .ok (.aload_n 0, 1) := by decide +kernel
theorem dX1_addLiftBetween_60 : decode cX1_addLiftBetween 60 = .ok (.getfield 31, 3) := by decide +kernel
theorem dX1_addLiftBetween_63 : decode cX1_addLiftBetween 63 = .ok (.iadd, 1) := by decide +kernel
theorem dX1_addLiftBetween_64 : decode cX1_addLiftBetween 64 = .ok (.iload_n 1, 1) := by decide +kernel
theorem dX1_addLiftBetween_65 : decode cX1_addLiftBetween 65 = .ok (.invokestatic 39, 3) := by decide +kernel
theorem dX1_addLiftBetween_68 : decode cX1_addLiftBetween 68 = .ok (.aload_n 0, 1) := by decide +kernel
theorem dX1_addLiftBetween_69 : decode cX1_addLiftBetween 69 = .ok (.dup, 1) := by decide +kernel
theorem dX1_addLiftBetween_70 : decode cX1_addLiftBetween 70 = .ok (.getfield 31, 3) := by decide +kernel
theorem dX1_addLiftBetween_73 : decode cX1_addLiftBetween 73 = .ok (.iconst 1, 1) := by decide +kernel
theorem dX1_addLiftBetween_74 : decode cX1_addLiftBetween 74 = .ok (.iadd, 1) := by decide +kernel
theorem dX1_addLiftBetween_75 : decode cX1_addLiftBetween 75 = .ok (.putfield 31, 3) := by decide +kernel
theorem dX1_addLiftBetween_78 : decode cX1_addLiftBetween 78 = .ok (.return_, 1) := by decide +kernel
theorem dX1_countOf_0 : decode cX1_countOf 0 = .ok (.iconst 0, 1) := by decide +kernel
theorem dX1_countOf_1 : decode cX1_countOf 1 = .ok (.istore_n 2, 1) := by decide +kernel
theorem dX1_countOf_2 : decode cX1_countOf 2 = .ok (.iconst 0, 1) := by decide +kernel
theorem dX1_countOf_3 : decode cX1_countOf 3 = .ok (.istore_n 3, 1) := by decide +kernel
theorem dX1_countOf_4 : decode cX1_countOf 4 = .ok (.iload_n 3, 1) := by decide +kernel
theorem dX1_countOf_5 : decode cX1_countOf 5 = .ok (.bipush 40, 2) := by decide +kernel
theorem dX1_countOf_7 : decode cX1_countOf 7 = .ok (.if_icmp .ge 24, 3) := by decide +kernel
theorem dX1_countOf_10 : decode cX1_countOf 10 = .ok (.aload_n 0, 1) := by decide +kernel
theorem dX1_countOf_11 : decode cX1_countOf 11 = .ok (.getfield 9, 3) := by decide +kernel
theorem dX1_countOf_14 : decode cX1_countOf 14 = .ok (.iload_n 3, 1) := by decide +kernel
theorem dX1_countOf_15 : decode cX1_countOf 15 = .ok (.invokestatic 47, 3) := by decide +kernel
theorem dX1_countOf_18 : decode cX1_countOf 18 = .ok (.iload_n 1, 1) := by decide +kernel
theorem dX1_countOf_19 : decode cX1_countOf 19 = .ok (.if_icmp .ne 6, 3) := by decide +kernel
theorem dX1_countOf_22 : decode cX1_countOf 22 = .ok (.iinc 2 1, 3) := by decide +kernel
theorem dX1_countOf_25 : decode cX1_countOf 25 = .ok (.iinc 3 1, 3) := by decide +kernel
theorem dX1_countOf_28 : decode cX1_countOf 28 = .ok (.goto (-24), 3) := by decide +kernel
theorem dX1_countOf_31 : decode cX1_countOf 31 = .ok (.iload_n 2, 1) := by decide +kernel
theorem dX1_countOf_32 : decode cX1_countOf 32 = .ok (.ireturn, 1) := by decide +kernel
theorem dX1_walls_0 : decode cX1_walls 0 = .ok (.lconst 0, 1) := by decide +kernel
theorem dX1_walls_1 : decode cX1_walls 1 = .ok (.lstore_n 1, 1) := by decide +kernel
theorem dX1_walls_2 : decode cX1_walls 2 = .ok (.iconst 0, 1) := by decide +kernel
theorem dX1_walls_3 : decode cX1_walls 3 = .ok (.istore_n 3, 1) := by decide +kernel
theorem dX1_walls_4 : decode cX1_walls 4 = .ok (.iload_n 3, 1) := by decide +kernel
theorem dX1_walls_5 : decode cX1_walls 5 = .ok (.bipush 40, 2) := by decide +kernel
theorem dX1_walls_7 : decode cX1_walls 7 = .ok (.if_icmp .ge 24, 3) := by decide +kernel
theorem dX1_walls_10 : decode cX1_walls 10 = .ok (.aload_n 0, 1) := by decide +kernel
theorem dX1_walls_11 : decode cX1_walls 11 = .ok (.iload_n 3, 1) := by decide +kernel
theorem dX1_walls_12 : decode cX1_walls 12 = .ok (.invokevirtual 51, 3) := by decide +kernel
theorem dX1_walls_15 : decode cX1_walls 15 = .ok (.ifCond .eq 10, 3) := by decide +kernel
theorem dX1_walls_18 : decode cX1_walls 18 = .ok (.lload_n 1, 1) := by decide +kernel
theorem dX1_walls_19 : decode cX1_walls 19 = .ok (.iload_n 3, 1) := by decide +kernel
theorem dX1_walls_20 : decode cX1_walls 20 = .ok (.invokestatic 55, 3) := by decide +kernel
theorem dX1_walls_23 : decode cX1_walls 23 = .ok (.lor, 1) := by decide +kernel
theorem dX1_walls_24 : decode cX1_walls 24 = .ok (.lstore_n 1, 1) := by decide +kernel
theorem dX1_walls_25 : decode cX1_walls 25 = .ok (.iinc 3 1, 3) := by decide +kernel
theorem dX1_walls_28 : decode cX1_walls 28 = .ok (.goto (-24), 3) := by decide +kernel
theorem dX1_walls_31 : decode cX1_walls 31 = .ok (.lload_n 1, 1) := by decide +kernel
theorem dX1_walls_32 : decode cX1_walls 32 = .ok (.lreturn, 1) := by decide +kernel
theorem dX1_reachedFrom_0 : decode cX1_reachedFrom 0 = .ok (.aload_n 0, 1) := by decide +kernel
theorem dX1_reachedFrom_1 : decode cX1_reachedFrom 1 = .ok (.iload_n 1, 1) := by decide +kernel
theorem dX1_reachedFrom_2 : decode cX1_reachedFrom 2 = .ok (.invokevirtual 59, 3) := by decide +kernel
theorem dX1_reachedFrom_5 : decode cX1_reachedFrom 5 = .ok (.iconst 0, 1) := by decide +kernel
theorem dX1_reachedFrom_6 : decode cX1_reachedFrom 6 = .ok (.istore_n 2, 1) := by decide +kernel
theorem dX1_reachedFrom_7 : decode cX1_reachedFrom 7 = .ok (.iconst 0, 1) := by decide +kernel
theorem dX1_reachedFrom_8 : decode cX1_reachedFrom 8 = .ok (.istore_n 3, 1) := by decide +kernel
theorem dX1_reachedFrom_9 : decode cX1_reachedFrom 9 = .ok (.iload_n 3, 1) := by decide +kernel
theorem dX1_reachedFrom_10 : decode cX1_reachedFrom 10 = .ok (.bipush 40, 2) := by decide +kernel
theorem dX1_reachedFrom_12 : decode cX1_reachedFrom 12 = .ok (.if_icmp .ge 25, 3) := by decide +kernel
theorem dX1_reachedFrom_15 : decode cX1_reachedFrom 15 = .ok (.aload_n 0, 1) := by decide +kernel
theorem dX1_reachedFrom_16 : decode cX1_reachedFrom 16 = .ok (.getfield 21, 3) := by decide +kernel
theorem dX1_reachedFrom_19 : decode cX1_reachedFrom 19 = .ok (.iload_n 3, 1) := by decide +kernel
theorem dX1_reachedFrom_20 : decode cX1_reachedFrom 20 = .ok (.invokestatic 47, 3) := by decide +kernel
theorem dX1_reachedFrom_23 : decode cX1_reachedFrom 23 = .ok (.ldc 63, 2) := by decide +kernel
theorem dX1_reachedFrom_25 : decode cX1_reachedFrom 25 = .ok (.if_icmp .ge 6, 3) := by decide +kernel
theorem dX1_reachedFrom_28 : decode cX1_reachedFrom 28 = .ok (.iinc 2 1, 3) := by decide +kernel
theorem dX1_reachedFrom_31 : decode cX1_reachedFrom 31 = .ok (.iinc 3 1, 3) := by decide +kernel
theorem dX1_reachedFrom_34 : decode cX1_reachedFrom 34 = .ok (.goto (-25), 3) := by decide +kernel
theorem dX1_reachedFrom_37 : decode cX1_reachedFrom 37 = .ok (.iload_n 2, 1) := by decide +kernel
theorem dX1_reachedFrom_38 : decode cX1_reachedFrom 38 = .ok (.ireturn, 1) := by decide +kernel
theorem dX1_distance_0 : decode cX1_distance 0 = .ok (.aload_n 0, 1) := by decide +kernel
theorem dX1_distance_1 : decode cX1_distance 1 = .ok (.iload_n 1, 1) := by decide +kernel
theorem dX1_distance_2 : decode cX1_distance 2 = .ok (.invokevirtual 59, 3) := by decide +kernel
theorem dX1_distance_5 : decode cX1_distance 5 = .ok (.aload_n 0, 1) := by decide +kernel
theorem dX1_distance_6 : decode cX1_distance 6 = .ok (.getfield 21, 3) := by decide +kernel
theorem dX1_distance_9 : decode cX1_distance 9 = .ok (.iload_n 2, 1) := by decide +kernel
theorem dX1_distance_10 : decode cX1_distance 10 = .ok (.invokestatic 47, 3) := by decide +kernel
theorem dX1_distance_13 : decode cX1_distance 13 = .ok (.ireturn, 1) := by decide +kernel
theorem dX1_measureFrom_0 : decode cX1_measureFrom 0 = .ok (.aload_n 0, 1) := by decide +kernel
theorem dX1_measureFrom_1 : decode cX1_measureFrom 1 = .ok (.getfield 21, 3) := by decide +kernel
theorem dX1_measureFrom_4 : decode cX1_measureFrom 4 = .ok (.ldc 63, 2) := by decide +kernel
theorem dX1_measureFrom_6 : decode cX1_measureFrom 6 = .ok (.invokestatic 27, 3) := by decide +kernel
theorem dX1_measureFrom_9 : decode cX1_measureFrom 9 = .ok (.aload_n 0, 1) := by decide +kernel
theorem dX1_measureFrom_10 : decode cX1_measureFrom 10 = .ok (.iload_n 1, 1) := by decide +kernel
theorem dX1_measureFrom_11 : decode cX1_measureFrom 11 = .ok (.invokevirtual 51, 3) := by decide +kernel
theorem dX1_measureFrom_14 : decode cX1_measureFrom 14 = .ok (.ifCond .eq 4, 3) := by decide +kernel
theorem dX1_measureFrom_17 : decode cX1_measureFrom 17 = .ok (.return_, 1) := by decide +kernel
theorem dX1_measureFrom_18 : decode cX1_measureFrom 18 = .ok (.aload_n 0, 1) := by decide +kernel
theorem dX1_measureFrom_19 : decode cX1_measureFrom 19 = .ok (.getfield 21, 3) := by decide +kernel
theorem dX1_measureFrom_22 : decode cX1_measureFrom 22 = .ok (.iload_n 1, 1) := by decide +kernel
theorem dX1_measureFrom_23 : decode cX1_measureFrom 23 = .ok (.iconst 0, 1) := by decide +kernel
theorem dX1_measureFrom_24 : decode cX1_measureFrom 24 = .ok (.invokestatic 39, 3) := by decide +kernel
theorem dX1_measureFrom_27 : decode cX1_measureFrom 27 = .ok (.iconst 1, 1) := by decide +kernel
theorem dX1_measureFrom_28 : decode cX1_measureFrom 28 = .ok (.istore_n 2, 1) := by decide +kernel
theorem dX1_measureFrom_29 : decode cX1_measureFrom 29 = .ok (.iconst 0, 1) := by decide +kernel
theorem dX1_measureFrom_30 : decode cX1_measureFrom 30 = .ok (.istore_n 3, 1) := by decide +kernel
theorem dX1_measureFrom_31 : decode cX1_measureFrom 31 = .ok (.iload_n 2, 1) := by decide +kernel
theorem dX1_measureFrom_32 : decode cX1_measureFrom 32 = .ok (.ifCond .eq 58, 3) := by decide +kernel
theorem dX1_measureFrom_35 : decode cX1_measureFrom 35 = .ok (.iload_n 3, 1) := by decide +kernel
theorem dX1_measureFrom_36 : decode cX1_measureFrom 36 = .ok (.bipush 40, 2) := by decide +kernel
theorem dX1_measureFrom_38 : decode cX1_measureFrom 38 = .ok (.if_icmp .ge 52, 3) := by decide +kernel
theorem dX1_measureFrom_41 : decode cX1_measureFrom 41 = .ok (.iconst 0, 1) := by decide +kernel
theorem dX1_measureFrom_42 : decode cX1_measureFrom 42 = .ok (.istore_n 2, 1) := by decide +kernel
theorem dX1_measureFrom_43 : decode cX1_measureFrom 43 = .ok (.iconst 0, 1) := by decide +kernel
theorem dX1_measureFrom_44 : decode cX1_measureFrom 44 = .ok (.istore 4, 2) := by decide +kernel
theorem dX1_measureFrom_46 : decode cX1_measureFrom 46 = .ok (.iload 4, 2) := by decide +kernel
theorem dX1_measureFrom_48 : decode cX1_measureFrom 48 = .ok (.bipush 40, 2) := by decide +kernel
theorem dX1_measureFrom_50 : decode cX1_measureFrom 50 = .ok (.if_icmp .ge 34, 3) := by decide +kernel
theorem dX1_measureFrom_53 : decode cX1_measureFrom 53 = .ok (.aload_n 0, 1) := by decide +kernel
theorem dX1_measureFrom_54 : decode cX1_measureFrom 54 = .ok (.getfield 21, 3) := by decide +kernel
theorem dX1_measureFrom_57 : decode cX1_measureFrom 57 = .ok (.iload 4, 2) := by decide +kernel
theorem dX1_measureFrom_59 : decode cX1_measureFrom 59 = .ok (.invokestatic 47, 3) := by decide +kernel
theorem dX1_measureFrom_62 : decode cX1_measureFrom 62 = .ok (.ldc 63, 2) := by decide +kernel
theorem dX1_measureFrom_64 : decode cX1_measureFrom 64 = .ok (.if_icmp .ge 14, 3) := by decide +kernel
theorem dX1_measureFrom_67 : decode cX1_measureFrom 67 = .ok (.aload_n 0, 1) := by decide +kernel
theorem dX1_measureFrom_68 : decode cX1_measureFrom 68 = .ok (.iload 4, 2) := by decide +kernel
theorem dX1_measureFrom_70 : decode cX1_measureFrom 70 = .ok (.invokevirtual 64, 3) := by decide +kernel
theorem dX1_measureFrom_73 : decode cX1_measureFrom 73 = .ok (.ifCond .eq 5, 3) := by decide +kernel
theorem dX1_measureFrom_76 : decode cX1_measureFrom 76 = .ok (.iconst 1, 1) := by decide +kernel
theorem dX1_measureFrom_77 : decode cX1_measureFrom 77 = .ok (.istore_n 2, 1) := by decide +kernel
theorem dX1_measureFrom_78 : decode cX1_measureFrom 78 = .ok (.iinc 4 1, 3) := by decide +kernel
theorem dX1_measureFrom_81 : decode cX1_measureFrom 81 = .ok (.goto (-35), 3) := by decide +kernel
theorem dX1_measureFrom_84 : decode cX1_measureFrom 84 = .ok (.iinc 3 1, 3) := by decide +kernel
theorem dX1_measureFrom_87 : decode cX1_measureFrom 87 = .ok (.goto (-56), 3) := by decide +kernel
theorem dX1_measureFrom_90 : decode cX1_measureFrom 90 = .ok (.return_, 1) := by decide +kernel
theorem dX1_shortenBehind_0 : decode cX1_shortenBehind 0 = .ok (.iconst 0, 1) := by decide +kernel
theorem dX1_shortenBehind_1 : decode cX1_shortenBehind 1 = .ok (.istore_n 2, 1) := by decide +kernel
theorem dX1_shortenBehind_2 : decode cX1_shortenBehind 2 = .ok (.iconst 1, 1) := by decide +kernel
theorem dX1_shortenBehind_3 : decode cX1_shortenBehind 3 = .ok (.istore_n 3, 1) := by decide +kernel
theorem dX1_shortenBehind_4 : decode cX1_shortenBehind 4 = .ok (.iload_n 3, 1) := by decide +kernel
theorem dX1_shortenBehind_5 : decode cX1_shortenBehind 5 = .ok (.bipush 7, 2) := by decide +kernel
theorem dX1_shortenBehind_7 : decode cX1_shortenBehind 7 = .ok (.if_icmp .ge 80, 3) := by decide +kernel
theorem dX1_shortenBehind_10 : decode cX1_shortenBehind 10 = .ok (.aload_n 0, 1) := by decide +kernel
theorem dX1_shortenBehind_11 : decode cX1_shortenBehind 11 = .ok (.getfield 15, 3) := by decide +kernel
theorem dX1_shortenBehind_14 : decode cX1_shortenBehind 14 = .ok (.iload_n 1, 1) := by decide +kernel
theorem dX1_shortenBehind_15 : decode cX1_shortenBehind 15 = .ok (.bipush 7, 2) := by decide +kernel
theorem dX1_shortenBehind_17 : decode cX1_shortenBehind 17 = .ok (.imul, 1) := by decide +kernel
theorem dX1_shortenBehind_18 : decode cX1_shortenBehind 18 = .ok (.iload_n 3, 1) := by decide +kernel
theorem dX1_shortenBehind_19 : decode cX1_shortenBehind 19 = .ok (.iadd, 1) := by decide +kernel
theorem dX1_shortenBehind_20 : decode cX1_shortenBehind 20 = .ok (.invokestatic 47, 3) := by decide +kernel
theorem dX1_shortenBehind_23 : decode cX1_shortenBehind 23 = .ok (.istore 4, 2) := by decide +kernel
theorem dX1_shortenBehind_25 : decode cX1_shortenBehind 25 = .ok (.aload_n 0, 1) := by decide +kernel
theorem dX1_shortenBehind_26 : decode cX1_shortenBehind 26 = .ok (.getfield 21, 3) := by decide +kernel
theorem dX1_shortenBehind_29 : decode cX1_shortenBehind 29 = .ok (.iload_n 1, 1) := by decide +kernel
theorem dX1_shortenBehind_30 : decode cX1_shortenBehind 30 = .ok (.invokestatic 47, 3) := by decide +kernel
theorem dX1_shortenBehind_33 : decode cX1_shortenBehind 33 = .ok (.iload_n 3, 1) := by decide +kernel
theorem dX1_shortenBehind_34 : decode cX1_shortenBehind 34 = .ok (.invokestatic 67, 3) := by decide +kernel
theorem dX1_shortenBehind_37 : decode cX1_shortenBehind 37 = .ok (.iadd, 1) := by decide +kernel
theorem dX1_shortenBehind_38 : decode cX1_shortenBehind 38 = .ok (.istore 5, 2) := by decide +kernel
theorem dX1_shortenBehind_40 : decode cX1_shortenBehind 40 = .ok (.iload 4, 2) := by decide +kernel
theorem dX1_shortenBehind_42 : decode cX1_shortenBehind 42 = .ok (.ifCond .lt 39, 3) := by decide +kernel
theorem dX1_shortenBehind_45 : decode cX1_shortenBehind 45 = .ok (.aload_n 0, 1) := by decide +kernel
theorem dX1_shortenBehind_46 : decode cX1_shortenBehind 46 = .ok (.iload 4, 2) := by decide +kernel
theorem dX1_shortenBehind_48 : decode cX1_shortenBehind 48 = .ok (.invokevirtual 51, 3) := by decide +kernel
theorem dX1_shortenBehind_51 : decode cX1_shortenBehind 51 = .ok (.ifCond .ne 30, 3) := by decide +kernel
theorem dX1_shortenBehind_54 : decode cX1_shortenBehind 54 = .ok (.iload 5, 2) := by decide +kernel
theorem dX1_shortenBehind_56 : decode cX1_shortenBehind 56 = .ok (.aload_n 0, 1) := by decide +kernel
theorem dX1_shortenBehind_57 : decode cX1_shortenBehind 57 = .ok (.getfield 21, 3) := by decide +kernel
theorem dX1_shortenBehind_60 : decode cX1_shortenBehind 60 = .ok (.iload 4, 2) := by decide +kernel
theorem dX1_shortenBehind_62 : decode cX1_shortenBehind 62 = .ok (.invokestatic 47, 3) := by decide +kernel
theorem dX1_shortenBehind_65 : decode cX1_shortenBehind 65 = .ok (.if_icmp .ge 16, 3) := by decide +kernel
theorem dX1_shortenBehind_68 : decode cX1_shortenBehind 68 = .ok (.aload_n 0, 1) := by decide +kernel
theorem dX1_shortenBehind_69 : decode cX1_shortenBehind 69 = .ok (.getfield 21, 3) := by decide +kernel
theorem dX1_shortenBehind_72 : decode cX1_shortenBehind 72 = .ok (.iload 4, 2) := by decide +kernel
theorem dX1_shortenBehind_74 : decode cX1_shortenBehind 74 = .ok (.iload 5, 2) := by decide +kernel
theorem dX1_shortenBehind_76 : decode cX1_shortenBehind 76 = .ok (.invokestatic 39, 3) := by decide +kernel
theorem dX1_shortenBehind_79 : decode cX1_shortenBehind 79 = .ok (.iconst 1, 1) := by decide +kernel
theorem dX1_shortenBehind_80 : decode cX1_shortenBehind 80 = .ok (.istore_n 2, 1) := by decide +kernel
theorem dX1_shortenBehind_81 : decode cX1_shortenBehind 81 = .ok (.iinc 3 1, 3) := by decide +kernel
theorem dX1_shortenBehind_84 : decode cX1_shortenBehind 84 = .ok (.goto (-80), 3) := by decide +kernel
theorem dX1_shortenBehind_87 : decode cX1_shortenBehind 87 = .ok (.iload_n 2, 1) := by decide +kernel
theorem dX1_shortenBehind_88 : decode cX1_shortenBehind 88 = .ok (.ireturn, 1) := by decide +kernel
theorem dX2_init_0 : decode cX2_init 0 = .ok (.aload_n 0, 1) := by decide +kernel
theorem dX2_init_1 : decode cX2_init 1 = .ok (.invokespecial 3, 3) := by decide +kernel
theorem dX2_init_4 : decode cX2_init 4 = .ok (.aload_n 0, 1) := by decide +kernel
theorem dX2_init_5 : decode cX2_init 5 = .ok (.bipush 30, 2) := by decide +kernel
theorem dX2_init_7 : decode cX2_init 7 = .ok (.newarray .int, 2) := by decide +kernel
theorem dX2_init_9 : decode cX2_init 9 = .ok (.putfield 9, 3) := by decide +kernel
theorem dX2_init_12 : decode cX2_init 12 = .ok (.aload_n 0, 1) := by decide +kernel
theorem dX2_init_13 : decode cX2_init 13 = .ok (.bipush 31, 2) := by decide +kernel
theorem dX2_init_15 : decode cX2_init 15 = .ok (.newarray .int, 2) := by decide +kernel
theorem dX2_init_17 : decode cX2_init 17 = .ok (.putfield 15, 3) := by decide +kernel
theorem dX2_init_20 : decode cX2_init 20 = .ok (.return_, 1) := by decide +kernel
theorem dX2_restAt_0 : decode cX2_restAt 0 = .ok (.aload_n 0, 1) := by decide +kernel
theorem dX2_restAt_1 : decode cX2_restAt 1 = .ok (.getfield 15, 3) := by decide +kernel
theorem dX2_restAt_4 : decode cX2_restAt 4 = .ok (.iconst 0, 1) := by decide +kernel
theorem dX2_restAt_5 : decode cX2_restAt 5 = .ok (.iload_n 1, 1) := by decide +kernel
theorem dX2_restAt_6 : decode cX2_restAt 6 = .ok (.invokestatic 18, 3) := by decide +kernel
theorem dX2_restAt_9 : decode cX2_restAt 9 = .ok (.aload_n 0, 1) := by decide +kernel
theorem dX2_restAt_10 : decode cX2_restAt 10 = .ok (.iload_n 2, 1) := by decide +kernel
theorem dX2_restAt_11 : decode cX2_restAt 11 = .ok (.putfield 22, 3) := by decide +kernel
theorem dX2_restAt_14 : decode cX2_restAt 14 = .ok (.aload_n 0, 1) := by decide +kernel
theorem dX2_restAt_15 : decode cX2_restAt 15 = .ok (.iconst 0, 1) := by decide +kernel
theorem dX2_restAt_16 : decode cX2_restAt 16 = .ok (.putfield 26, 3) := by decide +kernel
theorem dX2_restAt_19 : decode cX2_restAt 19 = .ok (.aload_n 0, 1) := by decide +kernel
theorem dX2_restAt_20 : decode cX2_restAt 20 = .ok (.iconst 0, 1) := by decide +kernel
theorem dX2_restAt_21 : decode cX2_restAt 21 = .ok (.putfield 29, 3) := by decide +kernel
theorem dX2_restAt_24 : decode cX2_restAt 24 = .ok (.return_, 1) := by decide +kernel
theorem dX2_copyFrom_0 : decode cX2_copyFrom 0 = .ok (.aload_n 1, 1) := by decide +kernel
theorem dX2_copyFrom_1 : decode cX2_copyFrom 1 = .ok (.getfield 9, 3) := by decide +kernel
theorem dX2_copyFrom_4 : decode cX2_copyFrom 4 = .ok (.aload_n 0, 1) := by decide +kernel
theorem dX2_copyFrom_5 : decode cX2_copyFrom 5 = .ok (.getfield 9, 3) := by decide +kernel
theorem dX2_copyFrom_8 : decode cX2_copyFrom 8 = .ok (.invokestatic 32, 3) := by decide +kernel
theorem dX2_copyFrom_11 : decode cX2_copyFrom 11 = .ok (.aload_n 1, 1) := by decide +kernel
theorem dX2_copyFrom_12 : decode cX2_copyFrom 12 = .ok (.getfield 15, 3) := by decide +kernel
theorem dX2_copyFrom_15 : decode cX2_copyFrom 15 = .ok (.aload_n 0, 1) := by decide +kernel
theorem dX2_copyFrom_16 : decode cX2_copyFrom 16 = .ok (.getfield 15, 3) := by decide +kernel
theorem dX2_copyFrom_19 : decode cX2_copyFrom 19 = .ok (.invokestatic 32, 3) := by decide +kernel
theorem dX2_copyFrom_22 : decode cX2_copyFrom 22 = .ok (.aload_n 0, 1) := by decide +kernel
theorem dX2_copyFrom_23 : decode cX2_copyFrom 23 = .ok (.aload_n 1, 1) := by decide +kernel
theorem dX2_copyFrom_24 : decode cX2_copyFrom 24 = .ok (.getfield 22, 3) := by decide +kernel
theorem dX2_copyFrom_27 : decode cX2_copyFrom 27 = .ok (.putfield 22, 3) := by decide +kernel
theorem dX2_copyFrom_30 : decode cX2_copyFrom 30 = .ok (.aload_n 0, 1) := by decide +kernel
theorem dX2_copyFrom_31 : decode cX2_copyFrom 31 = .ok (.aload_n 1, 1) := by decide +kernel
theorem dX2_copyFrom_32 : decode cX2_copyFrom 32 = .ok (.getfield 26, 3) := by decide +kernel
theorem dX2_copyFrom_35 : decode cX2_copyFrom 35 = .ok (.putfield 26, 3) := by decide +kernel
theorem dX2_copyFrom_38 : decode cX2_copyFrom 38 = .ok (.aload_n 0, 1) := by decide +kernel
theorem dX2_copyFrom_39 : decode cX2_copyFrom 39 = .ok (.aload_n 1, 1) := by decide +kernel
theorem dX2_copyFrom_40 : decode cX2_copyFrom 40 = .ok (.getfield 29, 3) := by decide +kernel
theorem dX2_copyFrom_43 : decode cX2_copyFrom 43 = .ok (.putfield 29, 3) := by decide +kernel
theorem dX2_copyFrom_46 : decode cX2_copyFrom 46 = .ok (.return_, 1) := by decide +kernel
theorem dX2_addAction_0 : decode cX2_addAction 0 = .ok (.iload_n 1, 1) := by decide +kernel
theorem dX2_addAction_1 : decode cX2_addAction 1 = .ok (.invokestatic 36, 3) := by decide +kernel
theorem dX2_addAction_4 : decode cX2_addAction 4 = .ok (.istore_n 3, 1) := by decide +kernel
theorem dX2_addAction_5 : decode cX2_addAction 5 = .ok (.aload_n 0, 1) := by decide +kernel
theorem dX2_addAction_6 : decode cX2_addAction 6 = .ok (.getfield 26, 3) := by decide +kernel
theorem dX2_addAction_9 : decode cX2_addAction 9 = .ok (.iload_n 3, 1) := by decide +kernel
theorem dX2_addAction_10 : decode cX2_addAction 10 = .ok (.iadd, 1) := by decide +kernel
theorem dX2_addAction_11 : decode cX2_addAction 11 = .ok (.bipush 30, 2) := by decide +kernel
theorem dX2_addAction_13 : decode cX2_addAction 13 = .ok (.if_icmp .le 4, 3) := by decide +kernel
theorem dX2_addAction_16 : decode cX2_addAction 16 = .ok (.return_, 1) := by decide +kernel
theorem dX2_addAction_17 : decode cX2_addAction 17 = .ok (.iconst 1, 1) := by decide +kernel
theorem dX2_addAction_18 : decode cX2_addAction 18 = .ok (.istore 4, 2) := by decide +kernel
theorem dX2_addAction_20 : decode cX2_addAction 20 = .ok (.iload 4, 2) := by decide +kernel
theorem dX2_addAction_22 : decode cX2_addAction 22 = .ok (.iload_n 3, 1) := by decide +kernel
theorem dX2_addAction_23 : decode cX2_addAction 23 = .ok (.if_icmp .gt 57, 3) := by decide +kernel
theorem dX2_addAction_26 : decode cX2_addAction 26 = .ok (.aload_n 0, 1) := by decide +kernel
theorem dX2_addAction_27 : decode cX2_addAction 27 = .ok (.getfield 9, 3) := by decide +kernel
theorem dX2_addAction_30 : decode cX2_addAction 30 = .ok (.aload_n 0, 1) := by decide +kernel
theorem dX2_addAction_31 : decode cX2_addAction 31 = .ok (.getfield 26, 3) := by decide +kernel
theorem dX2_addAction_34 : decode cX2_addAction 34 = .ok (.iload_n 1, 1) := by decide +kernel
theorem dX2_addAction_35 : decode cX2_addAction 35 = .ok (.invokestatic 18, 3) := by decide +kernel
theorem dX2_addAction_38 : decode cX2_addAction 38 = .ok (.aload_n 0, 1) := by decide +kernel
theorem dX2_addAction_39 : decode cX2_addAction 39 = .ok (.dup, 1) := by decide +kernel
theorem dX2_addAction_40 : decode cX2_addAction 40 = .ok (.getfield 26, 3) := by decide +kernel
theorem dX2_addAction_43 : decode cX2_addAction 43 = .ok (.iconst 1, 1) := by decide +kernel
theorem dX2_addAction_44 : decode cX2_addAction 44 = .ok (.iadd, 1) := by decide +kernel
theorem dX2_addAction_45 : decode cX2_addAction 45 = .ok (.putfield 26, 3) := by decide +kernel
theorem dX2_addAction_48 : decode cX2_addAction 48 = .ok (.aload_n 0, 1) := by decide +kernel
theorem dX2_addAction_49 : decode cX2_addAction 49 = .ok (.getfield 15, 3) := by decide +kernel
theorem dX2_addAction_52 : decode cX2_addAction 52 = .ok (.aload_n 0, 1) := by decide +kernel
theorem dX2_addAction_53 : decode cX2_addAction 53 = .ok (.getfield 26, 3) := by decide +kernel
theorem dX2_addAction_56 : decode cX2_addAction 56 = .ok (.iload 4, 2) := by decide +kernel
theorem dX2_addAction_58 : decode cX2_addAction 58 = .ok (.iload_n 3, 1) := by decide +kernel
theorem dX2_addAction_59 : decode cX2_addAction 59 = .ok (.if_icmp .ne 7, 3) := by decide +kernel
theorem dX2_addAction_62 : decode cX2_addAction 62 = .ok (.iload_n 2, 1) := by decide +kernel
theorem dX2_addAction_63 : decode cX2_addAction 63 = .ok (.goto 8, 3) := by decide +kernel
theorem dX2_addAction_66 : decode cX2_addAction 66 = .ok (.iconst (-1), 1) := by decide +kernel
theorem dX2_addAction_67 : decode cX2_addAction 67 = .ok (.iload_n 1, 1) := by decide +kernel
theorem dX2_addAction_68 : decode cX2_addAction 68 = .ok (.iconst 5, 1) := by decide +kernel
theorem dX2_addAction_69 : decode cX2_addAction 69 = .ok (.isub, 1) := by decide +kernel
theorem dX2_addAction_70 : decode cX2_addAction 70 = .ok (.isub, 1) := by decide +kernel
theorem dX2_addAction_71 : decode cX2_addAction 71 = .ok (.invokestatic 18, 3) := by decide +kernel
theorem dX2_addAction_74 : decode cX2_addAction 74 = .ok (.iinc 4 1, 3) := by decide +kernel
theorem dX2_addAction_77 : decode cX2_addAction 77 = .ok (.goto (-57), 3) := by decide +kernel
theorem dX2_addAction_80 : decode cX2_addAction 80 = .ok (.aload_n 0, 1) := by decide +kernel
theorem dX2_addAction_81 : decode cX2_addAction 81 = .ok (.dup, 1) := by decide +kernel
theorem dX2_addAction_82 : decode cX2_addAction 82 = .ok (.getfield 29, 3) := by decide +kernel
theorem dX2_addAction_85 : decode cX2_addAction 85 = .ok (.iload_n 1, 1) := by decide +kernel
theorem dX2_addAction_86 : decode cX2_addAction 86 = .ok (.invokestatic 40, 3) := by decide +kernel
theorem dX2_addAction_89 : decode cX2_addAction 89 = .ok (.iadd, 1) := by decide +kernel
theorem dX2_addAction_90 : decode cX2_addAction 90 = .ok (.putfield 29, 3) := by decide +kernel
theorem dX2_addAction_93 : decode cX2_addAction 93 = .ok (.return_, 1) := by decide +kernel
theorem dX2_lastPlace_0 : decode cX2_lastPlace 0 = .ok (.aload_n 0, 1) := by decide +kernel
theorem dX2_lastPlace_1 : decode cX2_lastPlace 1 = .ok (.getfield 15, 3) := by decide +kernel
theorem dX2_lastPlace_4 : decode cX2_lastPlace 4 = .ok (.aload_n 0, 1) := by decide +kernel
theorem dX2_lastPlace_5 : decode cX2_lastPlace 5 = .ok (.getfield 26, 3) := by decide +kernel
theorem dX2_lastPlace_8 : decode cX2_lastPlace 8 = .ok (.invokestatic 43, 3) := by decide +kernel
theorem dX2_lastPlace_11 : decode cX2_lastPlace 11 = .ok (.ireturn, 1) := by decide +kernel
theorem dX2_placeAt_0 : decode cX2_placeAt 0 = .ok (.aload_n 0, 1) := by decide +kernel
theorem dX2_placeAt_1 : decode cX2_placeAt 1 = .ok (.getfield 15, 3) := by decide +kernel
theorem dX2_placeAt_4 : decode cX2_placeAt 4 = .ok (.iconst 0, 1) := by decide +kernel
theorem dX2_placeAt_5 : decode cX2_placeAt 5 = .ok (.iload_n 1, 1) := by decide +kernel
theorem dX2_placeAt_6 : decode cX2_placeAt 6 = .ok (.aload_n 0, 1) := by decide +kernel
theorem dX2_placeAt_7 : decode cX2_placeAt 7 = .ok (.getfield 22, 3) := by decide +kernel
theorem dX2_placeAt_10 : decode cX2_placeAt 10 = .ok (.isub, 1) := by decide +kernel
theorem dX2_placeAt_11 : decode cX2_placeAt 11 = .ok (.aload_n 0, 1) := by decide +kernel
theorem dX2_placeAt_12 : decode cX2_placeAt 12 = .ok (.getfield 26, 3) := by decide +kernel
theorem dX2_placeAt_15 : decode cX2_placeAt 15 = .ok (.invokestatic 47, 3) := by decide +kernel
theorem dX2_placeAt_18 : decode cX2_placeAt 18 = .ok (.invokestatic 53, 3) := by decide +kernel
theorem dX2_placeAt_21 : decode cX2_placeAt 21 = .ok (.invokestatic 43, 3) := by decide +kernel
theorem dX2_placeAt_24 : decode cX2_placeAt 24 = .ok (.ireturn, 1) := by decide +kernel
theorem dX2_actionAt_0 : decode cX2_actionAt 0 = .ok (.iload_n 1, 1) := by decide +kernel
theorem dX2_actionAt_1 : decode cX2_actionAt 1 = .ok (.aload_n 0, 1) := by decide +kernel
theorem dX2_actionAt_2 : decode cX2_actionAt 2 = .ok (.getfield 22, 3) := by decide +kernel
theorem dX2_actionAt_5 : decode cX2_actionAt 5 = .ok (.isub, 1) := by decide +kernel
theorem dX2_actionAt_6 : decode cX2_actionAt 6 = .ok (.istore_n 2, 1) := by decide +kernel
theorem dX2_actionAt_7 : decode cX2_actionAt 7 = .ok (.iload_n 2, 1) := by decide +kernel
theorem dX2_actionAt_8 : decode cX2_actionAt 8 = .ok (.aload_n 0, 1) := by decide +kernel
theorem dX2_actionAt_9 : decode cX2_actionAt 9 = .ok (.getfield 26, 3) := by decide +kernel
theorem dX2_actionAt_12 : decode cX2_actionAt 12 = .ok (.if_icmp .ge 14, 3) := by decide +kernel
theorem dX2_actionAt_15 : decode cX2_actionAt 15 = .ok (.aload_n 0, 1) := by decide +kernel
theorem dX2_actionAt_16 : decode cX2_actionAt 16 = .ok (.getfield 9, 3) := by decide +kernel
theorem dX2_actionAt_19 : decode cX2_actionAt 19 = .ok (.iload_n 2, 1) := by decide +kernel
theorem dX2_actionAt_20 : decode cX2_actionAt 20 = .ok (.invokestatic 43, 3) := by decide +kernel
theorem dX2_actionAt_23 : decode cX2_actionAt 23 = .ok (.goto 4, 3) := by decide +kernel
theorem dX2_actionAt_26 : decode cX2_actionAt 26 = .ok (.iconst 0, 1) := by decide +kernel
theorem dX2_actionAt_27 : decode cX2_actionAt 27 = .ok (.ireturn, 1) := by decide +kernel
theorem dX2_ticksLeft_0 : decode cX2_ticksLeft 0 = .ok (.iconst 0, 1) := by decide +kernel
theorem dX2_ticksLeft_1 : decode cX2_ticksLeft 1 = .ok (.aload_n 0, 1) := by decide +kernel
theorem dX2_ticksLeft_2 : decode cX2_ticksLeft 2 = .ok (.getfield 22, 3) := by decide +kernel
theorem dX2_ticksLeft_5 : decode cX2_ticksLeft 5 = .ok (.aload_n 0, 1) := by decide +kernel
theorem dX2_ticksLeft_6 : decode cX2_ticksLeft 6 = .ok (.getfield 26, 3) := by decide +kernel
theorem dX2_ticksLeft_9 : decode cX2_ticksLeft 9 = .ok (.iadd, 1) := by decide +kernel
theorem dX2_ticksLeft_10 : decode cX2_ticksLeft 10 = .ok (.iload_n 1, 1) := by decide +kernel
theorem dX2_ticksLeft_11 : decode cX2_ticksLeft 11 = .ok (.isub, 1) := by decide +kernel
theorem dX2_ticksLeft_12 : decode cX2_ticksLeft 12 = .ok (.invokestatic 53, 3) := by decide +kernel
theorem dX2_ticksLeft_15 : decode cX2_ticksLeft 15 = .ok (.ireturn, 1) := by decide +kernel
theorem dX2_isBegin_0 : decode cX2_isBegin 0 = .ok (.aload_n 0, 1) := by decide +kernel
theorem dX2_isBegin_1 : decode cX2_isBegin 1 = .ok (.getfield 15, 3) := by decide +kernel
theorem dX2_isBegin_4 : decode cX2_isBegin 4 = .ok (.iload_n 1, 1) := by decide +kernel
theorem dX2_isBegin_5 : decode cX2_isBegin 5 = .ok (.invokestatic 43, 3) := by decide +kernel
theorem dX2_isBegin_8 : decode cX2_isBegin 8 = .ok (.ifCond .lt 7, 3) := by decide +kernel
theorem dX2_isBegin_11 : decode cX2_isBegin 11 = .ok (.iconst 1, 1) := by decide +kernel
theorem dX2_isBegin_12 : decode cX2_isBegin 12 = .ok (.goto 4, 3) := by decide +kernel
theorem dX2_isBegin_15 : decode cX2_isBegin 15 = .ok (.iconst 0, 1) := by decide +kernel
theorem dX2_isBegin_16 : decode cX2_isBegin 16 = .ok (.ireturn, 1) := by decide +kernel
theorem dX2_costLeft_0 : decode cX2_costLeft 0 = .ok (.iconst 0, 1) := by decide +kernel
theorem dX2_costLeft_1 : decode cX2_costLeft 1 = .ok (.istore_n 2, 1) := by decide +kernel
theorem dX2_costLeft_2 : decode cX2_costLeft 2 = .ok (.iconst 0, 1) := by decide +kernel
theorem dX2_costLeft_3 : decode cX2_costLeft 3 = .ok (.istore_n 3, 1) := by decide +kernel
theorem dX2_costLeft_4 : decode cX2_costLeft 4 = .ok (.iload_n 3, 1) := by decide +kernel
theorem dX2_costLeft_5 : decode cX2_costLeft 5 = .ok (.aload_n 0, 1) := by decide +kernel
theorem dX2_costLeft_6 : decode cX2_costLeft 6 = .ok (.getfield 26, 3) := by decide +kernel
theorem dX2_costLeft_9 : decode cX2_costLeft 9 = .ok (.if_icmp .ge 41, 3) := by decide +kernel
theorem dX2_costLeft_12 : decode cX2_costLeft 12 = .ok (.aload_n 0, 1) := by decide +kernel
theorem dX2_costLeft_13 : decode cX2_costLeft 13 = .ok (.iload_n 3, 1) := by decide +kernel
theorem dX2_costLeft_14 : decode cX2_costLeft 14 = .ok (.invokevirtual 56, 3) := by decide +kernel
theorem dX2_costLeft_17 : decode cX2_costLeft 17 = .ok (.ifCond .eq 27, 3) := by decide +kernel
theorem dX2_costLeft_20 : decode cX2_costLeft 20 = .ok (.aload_n 0, 1) := by decide +kernel
theorem dX2_costLeft_21 : decode cX2_costLeft 21 = .ok (.getfield 22, 3) := by decide +kernel
theorem dX2_costLeft_24 : decode cX2_costLeft 24 = .ok (.iload_n 3, 1) := by decide +kernel
theorem dX2_costLeft_25 : decode cX2_costLeft 25 = .ok (.iadd, 1) := by decide +kernel
theorem dX2_costLeft_26 : decode cX2_costLeft 26 = .ok (.iload_n 1, 1) := by decide +kernel
theorem dX2_costLeft_27 : decode cX2_costLeft 27 = .ok (.if_icmp .lt 17, 3) := by decide +kernel
theorem dX2_costLeft_30 : decode cX2_costLeft 30 = .ok (.iload_n 2, 1) := by decide +kernel
theorem dX2_costLeft_31 : decode cX2_costLeft 31 = .ok (.aload_n 0, 1) := by decide +kernel
theorem dX2_costLeft_32 : decode cX2_costLeft 32 = .ok (.getfield 9, 3) := by decide +kernel
theorem dX2_costLeft_35 : decode cX2_costLeft 35 = .ok (.iload_n 3, 1) := by decide +kernel
theorem dX2_costLeft_36 : decode cX2_costLeft 36 = .ok (.invokestatic 43, 3) := by decide +kernel
theorem dX2_costLeft_39 : decode cX2_costLeft 39 = .ok (.invokestatic 40, 3) := by decide +kernel
theorem dX2_costLeft_42 : decode cX2_costLeft 42 = .ok (.iadd, 1) := by decide +kernel
theorem dX2_costLeft_43 : decode cX2_costLeft 43 = .ok (.istore_n 2, 1) := by decide +kernel
theorem dX2_costLeft_44 : decode cX2_costLeft 44 = .ok (.iinc 3 1, 3) := by decide +kernel
theorem dX2_costLeft_47 : decode cX2_costLeft 47 = .ok (.goto (-43), 3) := by decide +kernel
theorem dX2_costLeft_50 : decode cX2_costLeft 50 = .ok (.iload_n 2, 1) := by decide +kernel
theorem dX2_costLeft_51 : decode cX2_costLeft 51 = .ok (.ireturn, 1) := by decide +kernel
theorem dX2_restAction_0 : decode cX2_restAction 0 = .ok (.iload_n 2, 1) := by decide +kernel
theorem dX2_restAction_1 : decode cX2_restAction 1 = .ok (.istore_n 3, 1) := by decide +kernel
theorem dX2_restAction_2 : decode cX2_restAction 2 = .ok (.iconst 0, 1) := by decide +kernel
theorem dX2_restAction_3 : decode cX2_restAction 3 = .ok (.istore 4, 2) := by decide +kernel
theorem dX2_restAction_5 : decode cX2_restAction 5 = .ok (.iload 4, 2) := by decide +kernel
theorem dX2_restAction_7 : decode cX2_restAction 7 = .ok (.aload_n 0, 1) := by decide +kernel
theorem dX2_restAction_8 : decode cX2_restAction 8 = .ok (.getfield 26, 3) := by decide +kernel
theorem dX2_restAction_11 : decode cX2_restAction 11 = .ok (.if_icmp .ge 56, 3) := by decide +kernel
theorem dX2_restAction_14 : decode cX2_restAction 14 = .ok (.aload_n 0, 1) := by decide +kernel
theorem dX2_restAction_15 : decode cX2_restAction 15 = .ok (.getfield 9, 3) := by decide +kernel
theorem dX2_restAction_18 : decode cX2_restAction 18 = .ok (.iload 4, 2) := by decide +kernel
theorem dX2_restAction_20 : decode cX2_restAction 20 = .ok (.invokestatic 43, 3) := by decide +kernel
theorem dX2_restAction_23 : decode cX2_restAction 23 = .ok (.istore 5, 2) := by decide +kernel
theorem dX2_restAction_25 : decode cX2_restAction 25 = .ok (.aload_n 0, 1) := by decide +kernel
theorem dX2_restAction_26 : decode cX2_restAction 26 = .ok (.iload 4, 2) := by decide +kernel
theorem dX2_restAction_28 : decode cX2_restAction 28 = .ok (.invokevirtual 56, 3) := by decide +kernel
theorem dX2_restAction_31 : decode cX2_restAction 31 = .ok (.ifCond .eq 30, 3) := by decide +kernel
theorem dX2_restAction_34 : decode cX2_restAction 34 = .ok (.aload_n 0, 1) := by decide +kernel
theorem dX2_restAction_35 : decode cX2_restAction 35 = .ok (.getfield 22, 3) := by decide +kernel
theorem dX2_restAction_38 : decode cX2_restAction 38 = .ok (.iload 4, 2) := by decide +kernel
theorem dX2_restAction_40 : decode cX2_restAction 40 = .ok (.iadd, 1) := by decide +kernel
theorem dX2_restAction_41 : decode cX2_restAction 41 = .ok (.iload 5, 2) := by decide +kernel
theorem dX2_restAction_43 : decode cX2_restAction 43 = .ok (.invokestatic 36, 3) := by decide +kernel
theorem dX2_restAction_46 : decode cX2_restAction 46 = .ok (.iadd, 1) := by decide +kernel
theorem dX2_restAction_47 : decode cX2_restAction 47 = .ok (.iload_n 1, 1) := by decide +kernel
theorem dX2_restAction_48 : decode cX2_restAction 48 = .ok (.if_icmp .le 13, 3) := by decide +kernel
theorem dX2_restAction_51 : decode cX2_restAction 51 = .ok (.iload_n 3, 1) := by decide +kernel
theorem dX2_restAction_52 : decode cX2_restAction 52 = .ok (.ifCond .ne 6, 3) := by decide +kernel
theorem dX2_restAction_55 : decode cX2_restAction 55 = .ok (.iload 5, 2) := by decide +kernel
theorem dX2_restAction_57 : decode cX2_restAction 57 = .ok (.ireturn, 1) := by decide +kernel
theorem dX2_restAction_58 : decode cX2_restAction 58 = .ok (.iinc 3 (-1), 3) := by decide +kernel
theorem dX2_restAction_61 : decode cX2_restAction 61 = .ok (.iinc 4 1, 3) := by decide +kernel
theorem dX2_restAction_64 : decode cX2_restAction 64 = .ok (.goto (-59), 3) := by decide +kernel
theorem dX2_restAction_67 : decode cX2_restAction 67 = .ok (.iconst (-1), 1) := by decide +kernel
theorem dX2_restAction_68 : decode cX2_restAction 68 = .ok (.ireturn, 1) := by decide +kernel
theorem dX3_init_0 : decode cX3_init 0 = .ok (.aload_n 0, 1) := by decide +kernel
theorem dX3_init_1 : decode cX3_init 1 = .ok (.invokespecial 3, 3) := by decide +kernel
theorem dX3_init_4 : decode cX3_init 4 = .ok (.aload_n 0, 1) := by decide +kernel
theorem dX3_init_5 : decode cX3_init 5 = .ok (.new 9, 3) := by decide +kernel
theorem dX3_init_8 : decode cX3_init 8 = .ok (.dup, 1) := by decide +kernel
theorem dX3_init_9 : decode cX3_init 9 = .ok (.invokespecial 11, 3) := by decide +kernel
theorem dX3_init_12 : decode cX3_init 12 = .ok (.putfield 12, 3) := by decide +kernel
theorem dX3_init_15 : decode cX3_init 15 = .ok (.aload_n 0, 1) := by decide +kernel
theorem dX3_init_16 : decode cX3_init 16 = .ok (.aload_n 1, 1) := by decide +kernel
theorem dX3_init_17 : decode cX3_init 17 = .ok (.putfield 18, 3) := by decide +kernel
theorem dX3_init_20 : decode cX3_init 20 = .ok (.aload_n 0, 1) := by decide +kernel
theorem dX3_init_21 : decode cX3_init 21 = .ok (.new 22, 3) := by decide +kernel
theorem dX3_init_24 : decode cX3_init 24 = .ok (.dup, 1) := by decide +kernel
theorem dX3_init_25 : decode cX3_init 25 = .ok (.aload_n 1, 1) := by decide +kernel
theorem dX3_init_26 : decode cX3_init 26 = .ok (.getfield 24, 3) := by decide +kernel
theorem dX3_init_29 : decode cX3_init 29 = .ok (.invokespecial 30, 3) := by decide +kernel
theorem dX3_init_32 : decode cX3_init 32 = .ok (.putfield 33, 3) := by decide +kernel
theorem dX3_init_35 : decode cX3_init 35 = .ok (.return_, 1) := by decide +kernel
theorem dX3_findFinal_0 : decode cX3_findFinal 0 = .ok (.aload_n 0, 1) := by decide +kernel
theorem dX3_findFinal_1 : decode cX3_findFinal 1 = .ok (.getfield 33, 3) := by decide +kernel
theorem dX3_findFinal_4 : decode cX3_findFinal 4 = .ok (.aload_n 0, 1) := by decide +kernel
theorem dX3_findFinal_5 : decode cX3_findFinal 5 = .ok (.getfield 12, 3) := by decide +kernel
theorem dX3_findFinal_8 : decode cX3_findFinal 8 = .ok (.aload_n 0, 1) := by decide +kernel
theorem dX3_findFinal_9 : decode cX3_findFinal 9 = .ok (.getfield 18, 3) := by decide +kernel
theorem dX3_findFinal_12 : decode cX3_findFinal 12 = .ok (.iload_n 1, 1) := by decide +kernel
theorem dX3_findFinal_13 : decode cX3_findFinal 13 = .ok (.iconst (-1), 1) := by decide +kernel
theorem dX3_findFinal_14 : decode cX3_findFinal 14 = .ok (.invokevirtual 37, 3) := by decide +kernel
theorem dX3_findFinal_17 : decode cX3_findFinal 17 = .ok (.aload_n 0, 1) := by decide +kernel
theorem dX3_findFinal_18 : decode cX3_findFinal 18 = .ok (.getfield 33, 3) := by decide +kernel
theorem dX3_findFinal_21 : decode cX3_findFinal 21 = .ok (.aload_n 0, 1) := by decide +kernel
theorem dX3_findFinal_22 : decode cX3_findFinal 22 = .ok (.getfield 12, 3) := by decide +kernel
theorem dX3_findFinal_25 : decode cX3_findFinal 25 = .ok (.iload_n 2, 1) := by decide +kernel
theorem dX3_findFinal_26 : decode cX3_findFinal 26 = .ok (.iconst 1, 1) := by decide +kernel
theorem dX3_findFinal_27 : decode cX3_findFinal 27 = .ok (.invokevirtual 41, 3) := by decide +kernel
theorem dX3_findFinal_30 : decode cX3_findFinal 30 = .ok (.ireturn, 1) := by decide +kernel
theorem dX3_hasFinalWithout_0 : decode cX3_hasFinalWithout 0 = .ok (.aload_n 0, 1) := by decide +kernel
theorem dX3_hasFinalWithout_1 : decode cX3_hasFinalWithout 1 = .ok (.getfield 33, 3) := by decide +kernel
theorem dX3_hasFinalWithout_4 : decode cX3_hasFinalWithout 4 = .ok (.aload_n 0, 1) := by decide +kernel
theorem dX3_hasFinalWithout_5 : decode cX3_hasFinalWithout 5 = .ok (.getfield 12, 3) := by decide +kernel
theorem dX3_hasFinalWithout_8 : decode cX3_hasFinalWithout 8 = .ok (.aload_n 0, 1) := by decide +kernel
theorem dX3_hasFinalWithout_9 : decode cX3_hasFinalWithout 9 = .ok (.getfield 18, 3) := by decide +kernel
theorem dX3_hasFinalWithout_12 : decode cX3_hasFinalWithout 12 = .ok (.iload_n 2, 1) := by decide +kernel
theorem dX3_hasFinalWithout_13 : decode cX3_hasFinalWithout 13 = .ok (.iload_n 1, 1) := by decide +kernel
theorem dX3_hasFinalWithout_14 : decode cX3_hasFinalWithout 14 = .ok (.invokevirtual 37, 3) := by decide +kernel
theorem dX3_hasFinalWithout_17 : decode cX3_hasFinalWithout 17 = .ok (.aload_n 0, 1) := by decide +kernel
theorem dX3_hasFinalWithout_18 : decode cX3_hasFinalWithout 18 = .ok (.getfield 33, 3) := by decide +kernel
theorem dX3_hasFinalWithout_21 : decode cX3_hasFinalWithout 21 = .ok (.aload_n 0, 1) := by decide +kernel
theorem dX3_hasFinalWithout_22 : decode cX3_hasFinalWithout 22 = .ok (.getfield 12, 3) := by decide +kernel
theorem dX3_hasFinalWithout_25 : decode cX3_hasFinalWithout 25 = .ok (.iload_n 3, 1) := by decide +kernel
theorem dX3_hasFinalWithout_26 : decode cX3_hasFinalWithout 26 = .ok (.iconst 1, 1) := by decide +kernel
theorem dX3_hasFinalWithout_27 : decode cX3_hasFinalWithout 27 = .ok (.invokevirtual 45, 3) := by decide +kernel
theorem dX3_hasFinalWithout_30 : decode cX3_hasFinalWithout 30 = .ok (.ifCond .lt 7, 3) := by decide +kernel
theorem dX3_hasFinalWithout_33 : decode cX3_hasFinalWithout 33 = .ok (.iconst 1, 1) := by decide +kernel
theorem dX3_hasFinalWithout_34 : decode cX3_hasFinalWithout 34 = .ok (.goto 4, 3) := by decide +kernel
theorem dX3_hasFinalWithout_37 : decode cX3_hasFinalWithout 37 = .ok (.iconst 0, 1) := by decide +kernel
theorem dX3_hasFinalWithout_38 : decode cX3_hasFinalWithout 38 = .ok (.ireturn, 1) := by decide +kernel
theorem dX3_isAffordable_0 : decode cX3_isAffordable 0 = .ok (.aload_n 0, 1) := by decide +kernel
theorem dX3_isAffordable_1 : decode cX3_isAffordable 1 = .ok (.getfield 12, 3) := by decide +kernel
theorem dX3_isAffordable_4 : decode cX3_isAffordable 4 = .ok (.getfield 49, 3) := by decide +kernel
theorem dX3_isAffordable_7 : decode cX3_isAffordable 7 = .ok (.aload_n 0, 1) := by decide +kernel
theorem dX3_isAffordable_8 : decode cX3_isAffordable 8 = .ok (.getfield 18, 3) := by decide +kernel
theorem dX3_isAffordable_11 : decode cX3_isAffordable 11 = .ok (.iload_n 1, 1) := by decide +kernel
theorem dX3_isAffordable_12 : decode cX3_isAffordable 12 = .ok (.invokevirtual 53, 3) := by decide +kernel
theorem dX3_isAffordable_15 : decode cX3_isAffordable 15 = .ok (.getfield 57, 3) := by decide +kernel
theorem dX3_isAffordable_18 : decode cX3_isAffordable 18 = .ok (.if_icmp .gt 7, 3) := by decide +kernel
theorem dX3_isAffordable_21 : decode cX3_isAffordable 21 = .ok (.iconst 1, 1) := by decide +kernel
theorem dX3_isAffordable_22 : decode cX3_isAffordable 22 = .ok (.goto 4, 3) := by decide +kernel
theorem dX3_isAffordable_25 : decode cX3_isAffordable 25 = .ok (.iconst 0, 1) := by decide +kernel
theorem dX3_isAffordable_26 : decode cX3_isAffordable 26 = .ok (.ireturn, 1) := by decide +kernel
theorem dX3_isPlannable_0 : decode cX3_isPlannable 0 = .ok (.aload_n 0, 1) := by decide +kernel
theorem dX3_isPlannable_1 : decode cX3_isPlannable 1 = .ok (.iload_n 1, 1) := by decide +kernel
theorem dX3_isPlannable_2 : decode cX3_isPlannable 2 = .ok (.iload_n 2, 1) := by decide +kernel
theorem dX3_isPlannable_3 : decode cX3_isPlannable 3 = .ok (.invokevirtual 62, 3) := by decide +kernel
theorem dX3_isPlannable_6 : decode cX3_isPlannable 6 = .ok (.ifCond .eq 15, 3) := by decide +kernel
theorem dX3_isPlannable_9 : decode cX3_isPlannable 9 = .ok (.aload_n 0, 1) := by decide +kernel
theorem dX3_isPlannable_10 : decode cX3_isPlannable 10 = .ok (.iload_n 1, 1) := by decide +kernel
theorem dX3_isPlannable_11 : decode cX3_isPlannable 11 = .ok (.invokevirtual 66, 3) := by decide +kernel
theorem dX3_isPlannable_14 : decode cX3_isPlannable 14 = .ok (.ifCond .eq 7, 3) := by decide +kernel
theorem dX3_isPlannable_17 : decode cX3_isPlannable 17 = .ok (.iconst 1, 1) := by decide +kernel
theorem dX3_isPlannable_18 : decode cX3_isPlannable 18 = .ok (.goto 4, 3) := by decide +kernel
theorem dX3_isPlannable_21 : decode cX3_isPlannable 21 = .ok (.iconst 0, 1) := by decide +kernel
theorem dX3_isPlannable_22 : decode cX3_isPlannable 22 = .ok (.ireturn, 1) := by decide +kernel
theorem dX3_adopt_0 : decode cX3_adopt 0 = .ok (.aload_n 0, 1) := by decide +kernel
theorem dX3_adopt_1 : decode cX3_adopt 1 = .ok (.getfield 18, 3) := by decide +kernel
theorem dX3_adopt_4 : decode cX3_adopt 4 = .ok (.iload_n 1, 1) := by decide +kernel
theorem dX3_adopt_5 : decode cX3_adopt 5 = .ok (.invokevirtual 53, 3) := by decide +kernel
theorem dX3_adopt_8 : decode cX3_adopt 8 = .ok (.astore_n 3, 1) := by decide +kernel
theorem dX3_adopt_9 : decode cX3_adopt 9 = .ok (.aload_n 0, 1) := by decide +kernel
theorem dX3_adopt_10 : decode cX3_adopt 10 = .ok (.getfield 18, 3) := by decide +kernel
theorem dX3_adopt_13 : decode cX3_adopt 13 = .ok (.aload_n 3, 1) := by decide +kernel
theorem dX3_adopt_14 : decode cX3_adopt 14 = .ok (.invokevirtual 70, 3) := by decide +kernel
theorem dX3_adopt_17 : decode cX3_adopt 17 = .ok (.aload_n 3, 1) := by decide +kernel
theorem dX3_adopt_18 : decode cX3_adopt 18 = .ok (.getfield 74, 3) := by decide +kernel
theorem dX3_adopt_21 : decode cX3_adopt 21 = .ok (.aload_n 0, 1) := by decide +kernel
theorem dX3_adopt_22 : decode cX3_adopt 22 = .ok (.getfield 12, 3) := by decide +kernel
theorem dX3_adopt_25 : decode cX3_adopt 25 = .ok (.invokevirtual 77, 3) := by decide +kernel
theorem dX3_adopt_28 : decode cX3_adopt 28 = .ok (.aload_n 3, 1) := by decide +kernel
theorem dX3_adopt_29 : decode cX3_adopt 29 = .ok (.iload_n 2, 1) := by decide +kernel
theorem dX3_adopt_30 : decode cX3_adopt 30 = .ok (.putfield 81, 3) := by decide +kernel
theorem dX3_adopt_33 : decode cX3_adopt 33 = .ok (.return_, 1) := by decide +kernel
theorem dX3_blockersOf_0 : decode cX3_blockersOf 0 = .ok (.iconst 0, 1) := by decide +kernel
theorem dX3_blockersOf_1 : decode cX3_blockersOf 1 = .ok (.istore_n 3, 1) := by decide +kernel
theorem dX3_blockersOf_2 : decode cX3_blockersOf 2 = .ok (.aload_n 0, 1) := by decide +kernel
theorem dX3_blockersOf_3 : decode cX3_blockersOf 3 = .ok (.iconst (-1), 1) := by decide +kernel
theorem dX3_blockersOf_4 : decode cX3_blockersOf 4 = .ok (.iload_n 1, 1) := by decide +kernel
theorem dX3_blockersOf_5 : decode cX3_blockersOf 5 = .ok (.iload_n 2, 1) := by decide +kernel
theorem dX3_blockersOf_6 : decode cX3_blockersOf 6 = .ok (.invokevirtual 84, 3) := by decide +kernel
theorem dX3_blockersOf_9 : decode cX3_blockersOf 9 = .ok (.ifCond .eq 5, 3) := by decide +kernel
theorem dX3_blockersOf_12 : decode cX3_blockersOf 12 = .ok (.iload_n 3, 1) := by decide +kernel
theorem dX3_blockersOf_13 : decode cX3_blockersOf 13 = .ok (.ireturn, 1) := by decide +kernel
theorem dX3_blockersOf_14 : decode cX3_blockersOf 14 = .ok (.iconst 0, 1) := by decide +kernel
theorem dX3_blockersOf_15 : decode cX3_blockersOf 15 = .ok (.istore 4, 2) := by decide +kernel
theorem dX3_blockersOf_17 : decode cX3_blockersOf 17 = .ok (.iload 4, 2) := by decide +kernel
theorem dX3_blockersOf_19 : decode cX3_blockersOf 19 = .ok (.aload_n 0, 1) := by decide +kernel
theorem dX3_blockersOf_20 : decode cX3_blockersOf 20 = .ok (.getfield 18, 3) := by decide +kernel
theorem dX3_blockersOf_23 : decode cX3_blockersOf 23 = .ok (.getfield 88, 3) := by decide +kernel
theorem dX3_blockersOf_26 : decode cX3_blockersOf 26 = .ok (.if_icmp .ge 33, 3) := by decide +kernel
theorem dX3_blockersOf_29 : decode cX3_blockersOf 29 = .ok (.iload 4, 2) := by decide +kernel
theorem dX3_blockersOf_31 : decode cX3_blockersOf 31 = .ok (.iload_n 1, 1) := by decide +kernel
theorem dX3_blockersOf_32 : decode cX3_blockersOf 32 = .ok (.if_icmp .eq 21, 3) := by decide +kernel
theorem dX3_blockersOf_35 : decode cX3_blockersOf 35 = .ok (.aload_n 0, 1) := by decide +kernel
theorem dX3_blockersOf_36 : decode cX3_blockersOf 36 = .ok (.iload 4, 2) := by decide +kernel
theorem dX3_blockersOf_38 : decode cX3_blockersOf 38 = .ok (.iload_n 1, 1) := by decide +kernel
theorem dX3_blockersOf_39 : decode cX3_blockersOf 39 = .ok (.iload_n 2, 1) := by decide +kernel
theorem dX3_blockersOf_40 : decode cX3_blockersOf 40 = .ok (.invokevirtual 84, 3) := by decide +kernel
theorem dX3_blockersOf_43 : decode cX3_blockersOf 43 = .ok (.ifCond .eq 10, 3) := by decide +kernel
theorem dX3_blockersOf_46 : decode cX3_blockersOf 46 = .ok (.iload_n 3, 1) := by decide +kernel
theorem dX3_blockersOf_47 : decode cX3_blockersOf 47 = .ok (.iconst 1, 1) := by decide +kernel
theorem dX3_blockersOf_48 : decode cX3_blockersOf 48 = .ok (.iload 4, 2) := by decide +kernel
theorem dX3_blockersOf_50 : decode cX3_blockersOf 50 = .ok (.ishl, 1) := by decide +kernel
theorem dX3_blockersOf_51 : decode cX3_blockersOf 51 = .ok (.ior, 1) := by decide +kernel
theorem dX3_blockersOf_52 : decode cX3_blockersOf 52 = .ok (.istore_n 3, 1) := by decide +kernel
theorem dX3_blockersOf_53 : decode cX3_blockersOf 53 = .ok (.iinc 4 1, 3) := by decide +kernel
theorem dX3_blockersOf_56 : decode cX3_blockersOf 56 = .ok (.goto (-39), 3) := by decide +kernel
theorem dX3_blockersOf_59 : decode cX3_blockersOf 59 = .ok (.iload_n 3, 1) := by decide +kernel
theorem dX3_blockersOf_60 : decode cX3_blockersOf 60 = .ok (.ireturn, 1) := by decide +kernel
theorem dX3_moveAside_0 : decode cX3_moveAside 0 = .ok (.iconst 0, 1) := by decide +kernel
theorem dX3_moveAside_1 : decode cX3_moveAside 1 = .ok (.istore_n 3, 1) := by decide +kernel
theorem dX3_moveAside_2 : decode cX3_moveAside 2 = .ok (.iload_n 3, 1) := by decide +kernel
theorem dX3_moveAside_3 : decode cX3_moveAside 3 = .ok (.aload_n 0, 1) := by decide +kernel
theorem dX3_moveAside_4 : decode cX3_moveAside 4 = .ok (.getfield 18, 3) := by decide +kernel
theorem dX3_moveAside_7 : decode cX3_moveAside 7 = .ok (.getfield 88, 3) := by decide +kernel
theorem dX3_moveAside_10 : decode cX3_moveAside 10 = .ok (.if_icmp .ge 142, 3) := by decide +kernel
theorem dX3_moveAside_13 : decode cX3_moveAside 13 = .ok (.iload_n 3, 1) := by decide +kernel
theorem dX3_moveAside_14 : decode cX3_moveAside 14 = .ok (.iload_n 1, 1) := by decide +kernel
theorem dX3_moveAside_15 : decode cX3_moveAside 15 = .ok (.if_icmp .eq 28, 3) := by decide +kernel
theorem dX3_moveAside_18 : decode cX3_moveAside 18 = .ok (.aload_n 0, 1) := by decide +kernel
theorem dX3_moveAside_19 : decode cX3_moveAside 19 = .ok (.getfield 18, 3) := by decide +kernel
theorem dX3_moveAside_22 : decode cX3_moveAside 22 = .ok (.iload_n 3, 1) := by decide +kernel
theorem dX3_moveAside_23 : decode cX3_moveAside 23 = .ok (.invokevirtual 91, 3) := by decide +kernel
theorem dX3_moveAside_26 : decode cX3_moveAside 26 = .ok (.ifCond .eq 17, 3) := by decide +kernel
theorem dX3_moveAside_29 : decode cX3_moveAside 29 = .ok (.aload_n 0, 1) := by decide +kernel
theorem dX3_moveAside_30 : decode cX3_moveAside 30 = .ok (.iload_n 3, 1) := by decide +kernel
theorem dX3_moveAside_31 : decode cX3_moveAside 31 = .ok (.iload_n 1, 1) := by decide +kernel
theorem dX3_moveAside_32 : decode cX3_moveAside 32 = .ok (.iload_n 2, 1) := by decide +kernel
theorem dX3_moveAside_33 : decode cX3_moveAside 33 = .ok (.invokevirtual 84, 3) := by decide +kernel
theorem dX3_moveAside_36 : decode cX3_moveAside 36 = .ok (.ifCond .eq 7, 3) := by decide +kernel
theorem dX3_moveAside_39 : decode cX3_moveAside 39 = .ok (.iconst 1, 1) := by decide +kernel
theorem dX3_moveAside_40 : decode cX3_moveAside 40 = .ok (.goto 4, 3) := by decide +kernel
theorem dX3_moveAside_43 : decode cX3_moveAside 43 = .ok (.iconst 0, 1) := by decide +kernel
theorem dX3_moveAside_44 : decode cX3_moveAside 44 = .ok (.istore 4, 2) := by decide +kernel
theorem dX3_moveAside_46 : decode cX3_moveAside 46 = .ok (.iconst 0, 1) := by decide +kernel
theorem dX3_moveAside_47 : decode cX3_moveAside 47 = .ok (.istore 5, 2) := by decide +kernel
theorem dX3_moveAside_49 : decode cX3_moveAside 49 = .ok (.iload 4, 2) := by decide +kernel
theorem dX3_moveAside_51 : decode cX3_moveAside 51 = .ok (.ifCond .eq 95, 3) := by decide +kernel
theorem dX3_moveAside_54 : decode cX3_moveAside 54 = .ok (.iload 5, 2) := by decide +kernel
theorem dX3_moveAside_56 : decode cX3_moveAside 56 = .ok (.bipush 40, 2) := by decide +kernel
theorem dX3_moveAside_58 : decode cX3_moveAside 58 = .ok (.if_icmp .ge 88, 3) := by decide +kernel
theorem dX3_moveAside_61 : decode cX3_moveAside 61 = .ok (.aload_n 0, 1) := by decide +kernel
theorem dX3_moveAside_62 : decode cX3_moveAside 62 = .ok (.iload_n 3, 1) := by decide +kernel
theorem dX3_moveAside_63 : decode cX3_moveAside 63 = .ok (.iload 5, 2) := by decide +kernel
theorem dX3_moveAside_65 : decode cX3_moveAside 65 = .ok (.invokevirtual 94, 3) := by decide +kernel
theorem dX3_moveAside_68 : decode cX3_moveAside 68 = .ok (.ifCond .eq 72, 3) := by decide +kernel
theorem dX3_moveAside_71 : decode cX3_moveAside 71 = .ok (.aload_n 0, 1) := by decide +kernel
theorem dX3_moveAside_72 : decode cX3_moveAside 72 = .ok (.getfield 18, 3) := by decide +kernel
theorem dX3_moveAside_75 : decode cX3_moveAside 75 = .ok (.iload_n 3, 1) := by decide +kernel
theorem dX3_moveAside_76 : decode cX3_moveAside 76 = .ok (.invokevirtual 53, 3) := by decide +kernel
theorem dX3_moveAside_79 : decode cX3_moveAside 79 = .ok (.getfield 74, 3) := by decide +kernel
theorem dX3_moveAside_82 : decode cX3_moveAside 82 = .ok (.aload_n 0, 1) := by decide +kernel
theorem dX3_moveAside_83 : decode cX3_moveAside 83 = .ok (.getfield 18, 3) := by decide +kernel
theorem dX3_moveAside_86 : decode cX3_moveAside 86 = .ok (.getfield 97, 3) := by decide +kernel
theorem dX3_moveAside_89 : decode cX3_moveAside 89 = .ok (.invokevirtual 100, 3) := by decide +kernel
theorem dX3_moveAside_92 : decode cX3_moveAside 92 = .ok (.istore 6, 2) := by decide +kernel
theorem dX3_moveAside_94 : decode cX3_moveAside 94 = .ok (.aload_n 0, 1) := by decide +kernel
theorem dX3_moveAside_95 : decode cX3_moveAside 95 = .ok (.iload_n 3, 1) := by decide +kernel
theorem dX3_moveAside_96 : decode cX3_moveAside 96 = .ok (.iconst (-1), 1) := by decide +kernel
theorem dX3_moveAside_97 : decode cX3_moveAside 97 = .ok (.invokevirtual 104, 3) := by decide +kernel
theorem dX3_moveAside_100 : decode cX3_moveAside 100 = .ok (.aload_n 0, 1) := by decide +kernel
theorem dX3_moveAside_101 : decode cX3_moveAside 101 = .ok (.iload_n 1, 1) := by decide +kernel
theorem dX3_moveAside_102 : decode cX3_moveAside 102 = .ok (.iload_n 2, 1) := by decide +kernel
theorem dX3_moveAside_103 : decode cX3_moveAside 103 = .ok (.invokevirtual 94, 3) := by decide +kernel
theorem dX3_moveAside_106 : decode cX3_moveAside 106 = .ok (.ifCond .eq 11, 3) := by decide +kernel
theorem dX3_moveAside_109 : decode cX3_moveAside 109 = .ok (.aload_n 0, 1) := by decide +kernel
theorem dX3_moveAside_110 : decode cX3_moveAside 110 = .ok (.iload_n 1, 1) := by decide +kernel
theorem dX3_moveAside_111 : decode cX3_moveAside 111 = .ok (.iconst (-1), 1) := by decide +kernel
theorem dX3_moveAside_112 : decode cX3_moveAside 112 = .ok (.invokevirtual 104, 3) := by decide +kernel
theorem dX3_moveAside_115 : decode cX3_moveAside 115 = .ok (.iload_n 3, 1) := by decide +kernel
theorem dX3_moveAside_116 : decode cX3_moveAside 116 = .ok (.ireturn, 1) := by decide +kernel
theorem dX3_moveAside_117 : decode cX3_moveAside 117 = .ok (.aload_n 0, 1) := by decide +kernel
theorem dX3_moveAside_118 : decode cX3_moveAside 118 = .ok (.getfield 18, 3) := by decide +kernel
theorem dX3_moveAside_121 : decode cX3_moveAside 121 = .ok (.iload_n 3, 1) := by decide +kernel
theorem dX3_moveAside_122 : decode cX3_moveAside 122 = .ok (.invokevirtual 53, 3) := by decide +kernel
theorem dX3_moveAside_125 : decode cX3_moveAside 125 = .ok (.getfield 74, 3) := by decide +kernel
theorem dX3_moveAside_128 : decode cX3_moveAside 128 = .ok (.iload 6, 2) := by decide +kernel
theorem dX3_moveAside_130 : decode cX3_moveAside 130 = .ok (.aload_n 0, 1) := by decide +kernel
theorem dX3_moveAside_131 : decode cX3_moveAside 131 = .ok (.getfield 18, 3) := by decide +kernel
theorem dX3_moveAside_134 : decode cX3_moveAside 134 = .ok (.getfield 97, 3) := by decide +kernel
theorem dX3_moveAside_137 : decode cX3_moveAside 137 = .ok (.invokevirtual 108, 3) := by decide +kernel
theorem dX3_moveAside_140 : decode cX3_moveAside 140 = .ok (.iinc 5 1, 3) := by decide +kernel
theorem dX3_moveAside_143 : decode cX3_moveAside 143 = .ok (.goto (-94), 3) := by decide +kernel
theorem dX3_moveAside_146 : decode cX3_moveAside 146 = .ok (.iinc 3 1, 3) := by decide +kernel
theorem dX3_moveAside_149 : decode cX3_moveAside 149 = .ok (.goto (-147), 3) := by decide +kernel
theorem dX3_moveAside_152 : decode cX3_moveAside 152 = .ok (.iconst (-1), 1) := by decide +kernel
theorem dX3_moveAside_153 : decode cX3_moveAside 153 = .ok (.ireturn, 1) := by decide +kernel
theorem dX3_nearestCharger_0 : decode cX3_nearestCharger 0 = .ok (.iconst (-1), 1) := by decide +kernel
theorem dX3_nearestCharger_1 : decode cX3_nearestCharger 1 = .ok (.istore_n 2, 1) := by decide +kernel
theorem dX3_nearestCharger_2 : decode cX3_nearestCharger 2 = .ok (.ldc 111, 2) := by decide +kernel
theorem dX3_nearestCharger_4 : decode cX3_nearestCharger 4 = .ok (.istore_n 3, 1) := by decide +kernel
theorem dX3_nearestCharger_5 : decode cX3_nearestCharger 5 = .ok (.iconst 0, 1) := by decide +kernel
theorem dX3_nearestCharger_6 : decode cX3_nearestCharger 6 = .ok (.istore 4, 2) := by decide +kernel
theorem dX3_nearestCharger_8 : decode cX3_nearestCharger 8 = .ok (.iload 4, 2) := by decide +kernel
theorem dX3_nearestCharger_10 : decode cX3_nearestCharger 10 = .ok (.bipush 40, 2) := by decide +kernel
theorem dX3_nearestCharger_12 : decode cX3_nearestCharger 12 = .ok (.if_icmp .ge 72, 3) := by decide +kernel
theorem dX3_nearestCharger_15 : decode cX3_nearestCharger 15 = .ok (.aload_n 0, 1) := by decide +kernel
theorem dX3_nearestCharger_16 : decode cX3_nearestCharger 16 = .ok (.getfield 18, 3) := by decide +kernel
theorem dX3_nearestCharger_19 : decode cX3_nearestCharger 19 = .ok (.getfield 24, 3) := by decide +kernel
theorem dX3_nearestCharger_22 : decode cX3_nearestCharger 22 = .ok (.getfield 112, 3) := by decide +kernel
theorem dX3_nearestCharger_25 : decode cX3_nearestCharger 25 = .ok (.iload 4, 2) := by decide +kernel
theorem dX3_nearestCharger_27 : decode cX3_nearestCharger 27 = .ok (.invokestatic 118, 3) := by decide +kernel
theorem dX3_nearestCharger_30 : decode cX3_nearestCharger 30 = .ok (.iconst 2, 1) := by decide +kernel
theorem dX3_nearestCharger_31 : decode cX3_nearestCharger 31 = .ok (.if_icmp .ne 7, 3) := by decide +kernel
theorem dX3_nearestCharger_34 : decode cX3_nearestCharger 34 = .ok (.iconst 1, 1) := by decide +kernel
theorem dX3_nearestCharger_35 : decode cX3_nearestCharger 35 = .ok (.goto 4, 3) := by decide +kernel
theorem dX3_nearestCharger_38 : decode cX3_nearestCharger 38 = .ok (.iconst 0, 1) := by decide +kernel
theorem dX3_nearestCharger_39 : decode cX3_nearestCharger 39 = .ok (.istore 5, 2) := by decide +kernel
theorem dX3_nearestCharger_41 : decode cX3_nearestCharger 41 = .ok (.iload 5, 2) := by decide +kernel
theorem dX3_nearestCharger_43 : decode cX3_nearestCharger 43 = .ok (.ifCond .eq 35, 3) := by decide +kernel
theorem dX3_nearestCharger_46 : decode cX3_nearestCharger 46 = .ok (.aload_n 0, 1) := by decide +kernel
theorem dX3_nearestCharger_47 : decode cX3_nearestCharger 47 = .ok (.iload_n 1, 1) := by decide +kernel
theorem dX3_nearestCharger_48 : decode cX3_nearestCharger 48 = .ok (.iload 4, 2) := by decide +kernel
theorem dX3_nearestCharger_50 : decode cX3_nearestCharger 50 = .ok (.invokevirtual 94, 3) := by decide +kernel
theorem dX3_nearestCharger_53 : decode cX3_nearestCharger 53 = .ok (.ifCond .eq 25, 3) := by decide +kernel
theorem dX3_nearestCharger_56 : decode cX3_nearestCharger 56 = .ok (.aload_n 0, 1) := by decide +kernel
theorem dX3_nearestCharger_57 : decode cX3_nearestCharger 57 = .ok (.getfield 12, 3) := by decide +kernel
theorem dX3_nearestCharger_60 : decode cX3_nearestCharger 60 = .ok (.getfield 122, 3) := by decide +kernel
theorem dX3_nearestCharger_63 : decode cX3_nearestCharger 63 = .ok (.iload_n 3, 1) := by decide +kernel
theorem dX3_nearestCharger_64 : decode cX3_nearestCharger 64 = .ok (.if_icmp .ge 14, 3) := by decide +kernel
theorem dX3_nearestCharger_67 : decode cX3_nearestCharger 67 = .ok (.iload 4, 2) := by decide +kernel
theorem dX3_nearestCharger_69 : decode cX3_nearestCharger 69 = .ok (.istore_n 2, 1) := by decide +kernel
theorem dX3_nearestCharger_70 : decode cX3_nearestCharger 70 = .ok (.aload_n 0, 1) := by decide +kernel
theorem dX3_nearestCharger_71 : decode cX3_nearestCharger 71 = .ok (.getfield 12, 3) := by decide +kernel
theorem dX3_nearestCharger_74 : decode cX3_nearestCharger 74 = .ok (.getfield 122, 3) := by decide +kernel
theorem dX3_nearestCharger_77 : decode cX3_nearestCharger 77 = .ok (.istore_n 3, 1) := by decide +kernel
theorem dX3_nearestCharger_78 : decode cX3_nearestCharger 78 = .ok (.iinc 4 1, 3) := by decide +kernel
theorem dX3_nearestCharger_81 : decode cX3_nearestCharger 81 = .ok (.goto (-73), 3) := by decide +kernel
theorem dX3_nearestCharger_84 : decode cX3_nearestCharger 84 = .ok (.iload_n 2, 1) := by decide +kernel
theorem dX3_nearestCharger_85 : decode cX3_nearestCharger 85 = .ok (.ireturn, 1) := by decide +kernel
theorem dX3_findService_0 : decode cX3_findService 0 = .ok (.aload_n 0, 1) := by decide +kernel
theorem dX3_findService_1 : decode cX3_findService 1 = .ok (.getfield 18, 3) := by decide +kernel
theorem dX3_findService_4 : decode cX3_findService 4 = .ok (.iload_n 1, 1) := by decide +kernel
theorem dX3_findService_5 : decode cX3_findService 5 = .ok (.invokevirtual 125, 3) := by decide +kernel
theorem dX3_findService_8 : decode cX3_findService 8 = .ok (.astore_n 3, 1) := by decide +kernel
theorem dX3_findService_9 : decode cX3_findService 9 = .ok (.aload_n 0, 1) := by decide +kernel
theorem dX3_findService_10 : decode cX3_findService 10 = .ok (.getfield 18, 3) := by decide +kernel
theorem dX3_findService_13 : decode cX3_findService 13 = .ok (.iload_n 2, 1) := by decide +kernel
theorem dX3_findService_14 : decode cX3_findService 14 = .ok (.invokevirtual 129, 3) := by decide +kernel
theorem dX3_findService_17 : decode cX3_findService 17 = .ok (.ifCond .eq 5, 3) := by decide +kernel
theorem dX3_findService_20 : decode cX3_findService 20 = .ok (.iconst 1, 1) := by decide +kernel
theorem dX3_findService_21 : decode cX3_findService 21 = .ok (.ireturn, 1) := by decide +kernel
theorem dX3_findService_22 : decode cX3_findService 22 = .ok (.aload_n 0, 1) := by decide +kernel
theorem dX3_findService_23 : decode cX3_findService 23 = .ok (.getfield 33, 3) := by decide +kernel
theorem dX3_findService_26 : decode cX3_findService 26 = .ok (.aload_n 0, 1) := by decide +kernel
theorem dX3_findService_27 : decode cX3_findService 27 = .ok (.getfield 12, 3) := by decide +kernel
theorem dX3_findService_30 : decode cX3_findService 30 = .ok (.aload_n 0, 1) := by decide +kernel
theorem dX3_findService_31 : decode cX3_findService 31 = .ok (.getfield 18, 3) := by decide +kernel
theorem dX3_findService_34 : decode cX3_findService 34 = .ok (.iload_n 2, 1) := by decide +kernel
theorem dX3_findService_35 : decode cX3_findService 35 = .ok (.iconst (-1), 1) := by decide +kernel
theorem dX3_findService_36 : decode cX3_findService 36 = .ok (.invokevirtual 37, 3) := by decide +kernel
theorem dX3_findService_39 : decode cX3_findService 39 = .ok (.aload_n 0, 1) := by decide +kernel
theorem dX3_findService_40 : decode cX3_findService 40 = .ok (.getfield 33, 3) := by decide +kernel
theorem dX3_findService_43 : decode cX3_findService 43 = .ok (.aload_n 0, 1) := by decide +kernel
theorem dX3_findService_44 : decode cX3_findService 44 = .ok (.getfield 12, 3) := by decide +kernel
theorem dX3_findService_47 : decode cX3_findService 47 = .ok (.aload_n 3, 1) := by decide +kernel
theorem dX3_findService_48 : decode cX3_findService 48 = .ok (.getfield 132, 3) := by decide +kernel
theorem dX3_findService_51 : decode cX3_findService 51 = .ok (.iconst 0, 1) := by decide +kernel
theorem dX3_findService_52 : decode cX3_findService 52 = .ok (.invokevirtual 41, 3) := by decide +kernel
theorem dX3_findService_55 : decode cX3_findService 55 = .ok (.ifCond .ne 5, 3) := by decide +kernel
theorem dX3_findService_58 : decode cX3_findService 58 = .ok (.iconst 2, 1) := by decide +kernel
theorem dX3_findService_59 : decode cX3_findService 59 = .ok (.ireturn, 1) := by decide +kernel
theorem dX3_findService_60 : decode cX3_findService 60 = .ok (.aload_n 0, 1) := by decide +kernel
theorem dX3_findService_61 : decode cX3_findService 61 = .ok (.aload_n 3, 1) := by decide +kernel
theorem dX3_findService_62 : decode cX3_findService 62 = .ok (.getfield 137, 3) := by decide +kernel
theorem dX3_findService_65 : decode cX3_findService 65 = .ok (.invokevirtual 140, 3) := by decide +kernel
theorem dX3_findService_68 : decode cX3_findService 68 = .ok (.ifCond .ne 5, 3) := by decide +kernel
theorem dX3_findService_71 : decode cX3_findService 71 = .ok (.iconst 3, 1) := by decide +kernel
theorem dX3_findService_72 : decode cX3_findService 72 = .ok (.ireturn, 1) := by decide +kernel
theorem dX3_findService_73 : decode cX3_findService 73 = .ok (.aload_n 0, 1) := by decide +kernel
theorem dX3_findService_74 : decode cX3_findService 74 = .ok (.getfield 33, 3) := by decide +kernel
theorem dX3_findService_77 : decode cX3_findService 77 = .ok (.aload_n 0, 1) := by decide +kernel
theorem dX3_findService_78 : decode cX3_findService 78 = .ok (.getfield 12, 3) := by decide +kernel
theorem dX3_findService_81 : decode cX3_findService 81 = .ok (.aload_n 3, 1) := by decide +kernel
theorem dX3_findService_82 : decode cX3_findService 82 = .ok (.getfield 143, 3) := by decide +kernel
theorem dX3_findService_85 : decode cX3_findService 85 = .ok (.iconst 1, 1) := by decide +kernel
theorem dX3_findService_86 : decode cX3_findService 86 = .ok (.invokevirtual 41, 3) := by decide +kernel
theorem dX3_findService_89 : decode cX3_findService 89 = .ok (.ifCond .ne 5, 3) := by decide +kernel
theorem dX3_findService_92 : decode cX3_findService 92 = .ok (.iconst 4, 1) := by decide +kernel
theorem dX3_findService_93 : decode cX3_findService 93 = .ok (.ireturn, 1) := by decide +kernel
theorem dX3_findService_94 : decode cX3_findService 94 = .ok (.aload_n 0, 1) := by decide +kernel
theorem dX3_findService_95 : decode cX3_findService 95 = .ok (.getfield 18, 3) := by decide +kernel
theorem dX3_findService_98 : decode cX3_findService 98 = .ok (.getfield 97, 3) := by decide +kernel
theorem dX3_findService_101 : decode cX3_findService 101 = .ok (.aload_n 0, 1) := by decide +kernel
theorem dX3_findService_102 : decode cX3_findService 102 = .ok (.getfield 12, 3) := by decide +kernel
theorem dX3_findService_105 : decode cX3_findService 105 = .ok (.getfield 122, 3) := by decide +kernel
theorem dX3_findService_108 : decode cX3_findService 108 = .ok (.iadd, 1) := by decide +kernel
theorem dX3_findService_109 : decode cX3_findService 109 = .ok (.aload_n 3, 1) := by decide +kernel
theorem dX3_findService_110 : decode cX3_findService 110 = .ok (.getfield 146, 3) := by decide +kernel
theorem dX3_findService_113 : decode cX3_findService 113 = .ok (.if_icmp .le 5, 3) := by decide +kernel
theorem dX3_findService_116 : decode cX3_findService 116 = .ok (.iconst 5, 1) := by decide +kernel
theorem dX3_findService_117 : decode cX3_findService 117 = .ok (.ireturn, 1) := by decide +kernel
theorem dX3_findService_118 : decode cX3_findService 118 = .ok (.aload_n 0, 1) := by decide +kernel
theorem dX3_findService_119 : decode cX3_findService 119 = .ok (.iload_n 2, 1) := by decide +kernel
theorem dX3_findService_120 : decode cX3_findService 120 = .ok (.invokevirtual 66, 3) := by decide +kernel
theorem dX3_findService_123 : decode cX3_findService 123 = .ok (.ifCond .eq 7, 3) := by decide +kernel
theorem dX3_findService_126 : decode cX3_findService 126 = .ok (.iconst 0, 1) := by decide +kernel
theorem dX3_findService_127 : decode cX3_findService 127 = .ok (.goto 5, 3) := by decide +kernel
theorem dX3_findService_130 : decode cX3_findService 130 = .ok (.bipush 6, 2) := by decide +kernel
theorem dX3_findService_132 : decode cX3_findService 132 = .ok (.ireturn, 1) := by decide +kernel
theorem dX3_waitUntil_0 : decode cX3_waitUntil 0 = .ok (.iload_n 1, 1) := by decide +kernel
theorem dX3_waitUntil_1 : decode cX3_waitUntil 1 = .ok (.aload_n 0, 1) := by decide +kernel
theorem dX3_waitUntil_2 : decode cX3_waitUntil 2 = .ok (.getfield 18, 3) := by decide +kernel
theorem dX3_waitUntil_5 : decode cX3_waitUntil 5 = .ok (.getfield 97, 3) := by decide +kernel
theorem dX3_waitUntil_8 : decode cX3_waitUntil 8 = .ok (.isub, 1) := by decide +kernel
theorem dX3_waitUntil_9 : decode cX3_waitUntil 9 = .ok (.istore_n 2, 1) := by decide +kernel
theorem dX3_waitUntil_10 : decode cX3_waitUntil 10 = .ok (.aload_n 0, 1) := by decide +kernel
theorem dX3_waitUntil_11 : decode cX3_waitUntil 11 = .ok (.getfield 12, 3) := by decide +kernel
theorem dX3_waitUntil_14 : decode cX3_waitUntil 14 = .ok (.invokevirtual 149, 3) := by decide +kernel
theorem dX3_waitUntil_17 : decode cX3_waitUntil 17 = .ok (.istore_n 3, 1) := by decide +kernel
theorem dX3_waitUntil_18 : decode cX3_waitUntil 18 = .ok (.iload_n 2, 1) := by decide +kernel
theorem dX3_waitUntil_19 : decode cX3_waitUntil 19 = .ok (.bipush 30, 2) := by decide +kernel
theorem dX3_waitUntil_21 : decode cX3_waitUntil 21 = .ok (.if_icmp .le 5, 3) := by decide +kernel
theorem dX3_waitUntil_24 : decode cX3_waitUntil 24 = .ok (.iconst 0, 1) := by decide +kernel
theorem dX3_waitUntil_25 : decode cX3_waitUntil 25 = .ok (.ireturn, 1) := by decide +kernel
theorem dX3_waitUntil_26 : decode cX3_waitUntil 26 = .ok (.aload_n 0, 1) := by decide +kernel
theorem dX3_waitUntil_27 : decode cX3_waitUntil 27 = .ok (.getfield 12, 3) := by decide +kernel
theorem dX3_waitUntil_30 : decode cX3_waitUntil 30 = .ok (.getfield 122, 3) := by decide +kernel
theorem dX3_waitUntil_33 : decode cX3_waitUntil 33 = .ok (.iconst 1, 1) := by decide +kernel
theorem dX3_waitUntil_34 : decode cX3_waitUntil 34 = .ok (.iadd, 1) := by decide +kernel
theorem dX3_waitUntil_35 : decode cX3_waitUntil 35 = .ok (.istore 4, 2) := by decide +kernel
theorem dX3_waitUntil_37 : decode cX3_waitUntil 37 = .ok (.iload 4, 2) := by decide +kernel
theorem dX3_waitUntil_39 : decode cX3_waitUntil 39 = .ok (.iload_n 2, 1) := by decide +kernel
theorem dX3_waitUntil_40 : decode cX3_waitUntil 40 = .ok (.if_icmp .gt 33, 3) := by decide +kernel
theorem dX3_waitUntil_43 : decode cX3_waitUntil 43 = .ok (.aload_n 0, 1) := by decide +kernel
theorem dX3_waitUntil_44 : decode cX3_waitUntil 44 = .ok (.getfield 33, 3) := by decide +kernel
theorem dX3_waitUntil_47 : decode cX3_waitUntil 47 = .ok (.iload_n 3, 1) := by decide +kernel
theorem dX3_waitUntil_48 : decode cX3_waitUntil 48 = .ok (.iload 4, 2) := by decide +kernel
theorem dX3_waitUntil_50 : decode cX3_waitUntil 50 = .ok (.invokevirtual 153, 3) := by decide +kernel
theorem dX3_waitUntil_53 : decode cX3_waitUntil 53 = .ok (.ifCond .eq 5, 3) := by decide +kernel
theorem dX3_waitUntil_56 : decode cX3_waitUntil 56 = .ok (.iconst 0, 1) := by decide +kernel
theorem dX3_waitUntil_57 : decode cX3_waitUntil 57 = .ok (.ireturn, 1) := by decide +kernel
theorem dX3_waitUntil_58 : decode cX3_waitUntil 58 = .ok (.aload_n 0, 1) := by decide +kernel
theorem dX3_waitUntil_59 : decode cX3_waitUntil 59 = .ok (.getfield 12, 3) := by decide +kernel
theorem dX3_waitUntil_62 : decode cX3_waitUntil 62 = .ok (.iconst 0, 1) := by decide +kernel
theorem dX3_waitUntil_63 : decode cX3_waitUntil 63 = .ok (.iload_n 3, 1) := by decide +kernel
theorem dX3_waitUntil_64 : decode cX3_waitUntil 64 = .ok (.invokevirtual 156, 3) := by decide +kernel
theorem dX3_waitUntil_67 : decode cX3_waitUntil 67 = .ok (.iinc 4 1, 3) := by decide +kernel
theorem dX3_waitUntil_70 : decode cX3_waitUntil 70 = .ok (.goto (-33), 3) := by decide +kernel
theorem dX3_waitUntil_73 : decode cX3_waitUntil 73 = .ok (.iconst 1, 1) := by decide +kernel
theorem dX3_waitUntil_74 : decode cX3_waitUntil 74 = .ok (.ireturn, 1) := by decide +kernel
theorem dX3_letServe_0 : decode cX3_letServe 0 = .ok (.aload_n 0, 1) := by decide +kernel
theorem dX3_letServe_1 : decode cX3_letServe 1 = .ok (.iload_n 1, 1) := by decide +kernel
theorem dX3_letServe_2 : decode cX3_letServe 2 = .ok (.iload_n 2, 1) := by decide +kernel
theorem dX3_letServe_3 : decode cX3_letServe 3 = .ok (.invokevirtual 159, 3) := by decide +kernel
theorem dX3_letServe_6 : decode cX3_letServe 6 = .ok (.istore_n 3, 1) := by decide +kernel
theorem dX3_letServe_7 : decode cX3_letServe 7 = .ok (.iload_n 3, 1) := by decide +kernel
theorem dX3_letServe_8 : decode cX3_letServe 8 = .ok (.ifCond .ne 26, 3) := by decide +kernel
theorem dX3_letServe_11 : decode cX3_letServe 11 = .ok (.aload_n 0, 1) := by decide +kernel
theorem dX3_letServe_12 : decode cX3_letServe 12 = .ok (.iload_n 2, 1) := by decide +kernel
theorem dX3_letServe_13 : decode cX3_letServe 13 = .ok (.iload_n 1, 1) := by decide +kernel
theorem dX3_letServe_14 : decode cX3_letServe 14 = .ok (.invokevirtual 104, 3) := by decide +kernel
theorem dX3_letServe_17 : decode cX3_letServe 17 = .ok (.aload_n 0, 1) := by decide +kernel
theorem dX3_letServe_18 : decode cX3_letServe 18 = .ok (.getfield 18, 3) := by decide +kernel
theorem dX3_letServe_21 : decode cX3_letServe 21 = .ok (.iload_n 1, 1) := by decide +kernel
theorem dX3_letServe_22 : decode cX3_letServe 22 = .ok (.invokevirtual 125, 3) := by decide +kernel
theorem dX3_letServe_25 : decode cX3_letServe 25 = .ok (.iconst 1, 1) := by decide +kernel
theorem dX3_letServe_26 : decode cX3_letServe 26 = .ok (.iconst 0, 1) := by decide +kernel
theorem dX3_letServe_27 : decode cX3_letServe 27 = .ok (.iload_n 2, 1) := by decide +kernel
theorem dX3_letServe_28 : decode cX3_letServe 28 = .ok (.invokevirtual 163, 3) := by decide +kernel
theorem dX3_letServe_31 : decode cX3_letServe 31 = .ok (.goto 17, 3) := by decide +kernel
theorem dX3_letServe_34 : decode cX3_letServe 34 = .ok (.aload_n 0, 1) := by decide +kernel
theorem dX3_letServe_35 : decode cX3_letServe 35 = .ok (.getfield 18, 3) := by decide +kernel
theorem dX3_letServe_38 : decode cX3_letServe 38 = .ok (.iload_n 1, 1) := by decide +kernel
theorem dX3_letServe_39 : decode cX3_letServe 39 = .ok (.invokevirtual 125, 3) := by decide +kernel
theorem dX3_letServe_42 : decode cX3_letServe 42 = .ok (.iconst 3, 1) := by decide +kernel
theorem dX3_letServe_43 : decode cX3_letServe 43 = .ok (.iload_n 3, 1) := by decide +kernel
theorem dX3_letServe_44 : decode cX3_letServe 44 = .ok (.iconst (-1), 1) := by decide +kernel
theorem dX3_letServe_45 : decode cX3_letServe 45 = .ok (.invokevirtual 163, 3) := by decide +kernel
theorem dX3_letServe_48 : decode cX3_letServe 48 = .ok (.iload_n 3, 1) := by decide +kernel
theorem dX3_letServe_49 : decode cX3_letServe 49 = .ok (.ireturn, 1) := by decide +kernel
theorem dX3_bestFor_0 : decode cX3_bestFor 0 = .ok (.iconst (-1), 1) := by decide +kernel
theorem dX3_bestFor_1 : decode cX3_bestFor 1 = .ok (.istore_n 3, 1) := by decide +kernel
theorem dX3_bestFor_2 : decode cX3_bestFor 2 = .ok (.ldc 111, 2) := by decide +kernel
theorem dX3_bestFor_4 : decode cX3_bestFor 4 = .ok (.istore 4, 2) := by decide +kernel
theorem dX3_bestFor_6 : decode cX3_bestFor 6 = .ok (.iconst 0, 1) := by decide +kernel
theorem dX3_bestFor_7 : decode cX3_bestFor 7 = .ok (.istore 5, 2) := by decide +kernel
theorem dX3_bestFor_9 : decode cX3_bestFor 9 = .ok (.iload 5, 2) := by decide +kernel
theorem dX3_bestFor_11 : decode cX3_bestFor 11 = .ok (.aload_n 0, 1) := by decide +kernel
theorem dX3_bestFor_12 : decode cX3_bestFor 12 = .ok (.getfield 18, 3) := by decide +kernel
theorem dX3_bestFor_15 : decode cX3_bestFor 15 = .ok (.getfield 88, 3) := by decide +kernel
theorem dX3_bestFor_18 : decode cX3_bestFor 18 = .ok (.if_icmp .ge 71, 3) := by decide +kernel
theorem dX3_bestFor_21 : decode cX3_bestFor 21 = .ok (.iload_n 2, 1) := by decide +kernel
theorem dX3_bestFor_22 : decode cX3_bestFor 22 = .ok (.ifCond .eq 15, 3) := by decide +kernel
theorem dX3_bestFor_25 : decode cX3_bestFor 25 = .ok (.aload_n 0, 1) := by decide +kernel
theorem dX3_bestFor_26 : decode cX3_bestFor 26 = .ok (.getfield 18, 3) := by decide +kernel
theorem dX3_bestFor_29 : decode cX3_bestFor 29 = .ok (.iload 5, 2) := by decide +kernel
theorem dX3_bestFor_31 : decode cX3_bestFor 31 = .ok (.invokevirtual 91, 3) := by decide +kernel
theorem dX3_bestFor_34 : decode cX3_bestFor 34 = .ok (.ifCond .eq 7, 3) := by decide +kernel
theorem dX3_bestFor_37 : decode cX3_bestFor 37 = .ok (.iconst 1, 1) := by decide +kernel
theorem dX3_bestFor_38 : decode cX3_bestFor 38 = .ok (.goto 4, 3) := by decide +kernel
theorem dX3_bestFor_41 : decode cX3_bestFor 41 = .ok (.iconst 0, 1) := by decide +kernel
theorem dX3_bestFor_42 : decode cX3_bestFor 42 = .ok (.istore 6, 2) := by decide +kernel
theorem dX3_bestFor_44 : decode cX3_bestFor 44 = .ok (.iload 6, 2) := by decide +kernel
theorem dX3_bestFor_46 : decode cX3_bestFor 46 = .ok (.ifCond .eq 37, 3) := by decide +kernel
theorem dX3_bestFor_49 : decode cX3_bestFor 49 = .ok (.aload_n 0, 1) := by decide +kernel
theorem dX3_bestFor_50 : decode cX3_bestFor 50 = .ok (.iload_n 1, 1) := by decide +kernel
theorem dX3_bestFor_51 : decode cX3_bestFor 51 = .ok (.iload 5, 2) := by decide +kernel
theorem dX3_bestFor_53 : decode cX3_bestFor 53 = .ok (.invokevirtual 159, 3) := by decide +kernel
theorem dX3_bestFor_56 : decode cX3_bestFor 56 = .ok (.ifCond .ne 27, 3) := by decide +kernel
theorem dX3_bestFor_59 : decode cX3_bestFor 59 = .ok (.aload_n 0, 1) := by decide +kernel
theorem dX3_bestFor_60 : decode cX3_bestFor 60 = .ok (.getfield 12, 3) := by decide +kernel
theorem dX3_bestFor_63 : decode cX3_bestFor 63 = .ok (.getfield 122, 3) := by decide +kernel
theorem dX3_bestFor_66 : decode cX3_bestFor 66 = .ok (.iload 4, 2) := by decide +kernel
theorem dX3_bestFor_68 : decode cX3_bestFor 68 = .ok (.if_icmp .ge 15, 3) := by decide +kernel
theorem dX3_bestFor_71 : decode cX3_bestFor 71 = .ok (.iload 5, 2) := by decide +kernel
theorem dX3_bestFor_73 : decode cX3_bestFor 73 = .ok (.istore_n 3, 1) := by decide +kernel
theorem dX3_bestFor_74 : decode cX3_bestFor 74 = .ok (.aload_n 0, 1) := by decide +kernel
theorem dX3_bestFor_75 : decode cX3_bestFor 75 = .ok (.getfield 12, 3) := by decide +kernel
theorem dX3_bestFor_78 : decode cX3_bestFor 78 = .ok (.getfield 122, 3) := by decide +kernel
theorem dX3_bestFor_81 : decode cX3_bestFor 81 = .ok (.istore 4, 2) := by decide +kernel
theorem dX3_bestFor_83 : decode cX3_bestFor 83 = .ok (.iinc 5 1, 3) := by decide +kernel
theorem dX3_bestFor_86 : decode cX3_bestFor 86 = .ok (.goto (-77), 3) := by decide +kernel
theorem dX3_bestFor_89 : decode cX3_bestFor 89 = .ok (.iload_n 3, 1) := by decide +kernel
theorem dX3_bestFor_90 : decode cX3_bestFor 90 = .ok (.ireturn, 1) := by decide +kernel
theorem dX3_assignOpenTasks_0 : decode cX3_assignOpenTasks 0 = .ok (.iconst 0, 1) := by decide +kernel
theorem dX3_assignOpenTasks_1 : decode cX3_assignOpenTasks 1 = .ok (.istore_n 1, 1) := by decide +kernel
theorem dX3_assignOpenTasks_2 : decode cX3_assignOpenTasks 2 = .ok (.iconst (-1), 1) := by decide +kernel
theorem dX3_assignOpenTasks_3 : decode cX3_assignOpenTasks 3 = .ok (.istore_n 2, 1) := by decide +kernel
theorem dX3_assignOpenTasks_4 : decode cX3_assignOpenTasks 4 = .ok (.iconst 0, 1) := by decide +kernel
theorem dX3_assignOpenTasks_5 : decode cX3_assignOpenTasks 5 = .ok (.istore_n 3, 1) := by decide +kernel
theorem dX3_assignOpenTasks_6 : decode cX3_assignOpenTasks 6 = .ok (.iload_n 3, 1) := by decide +kernel
theorem dX3_assignOpenTasks_7 : decode cX3_assignOpenTasks 7 = .ok (.bipush 12, 2) := by decide +kernel
theorem dX3_assignOpenTasks_9 : decode cX3_assignOpenTasks 9 = .ok (.if_icmp .ge 64, 3) := by decide +kernel
theorem dX3_assignOpenTasks_12 : decode cX3_assignOpenTasks 12 = .ok (.aload_n 0, 1) := by decide +kernel
theorem dX3_assignOpenTasks_13 : decode cX3_assignOpenTasks 13 = .ok (.getfield 18, 3) := by decide +kernel
theorem dX3_assignOpenTasks_16 : decode cX3_assignOpenTasks 16 = .ok (.iload_n 2, 1) := by decide +kernel
theorem dX3_assignOpenTasks_17 : decode cX3_assignOpenTasks 17 = .ok (.invokevirtual 167, 3) := by decide +kernel
theorem dX3_assignOpenTasks_20 : decode cX3_assignOpenTasks 20 = .ok (.istore 4, 2) := by decide +kernel
theorem dX3_assignOpenTasks_22 : decode cX3_assignOpenTasks 22 = .ok (.iload 4, 2) := by decide +kernel
theorem dX3_assignOpenTasks_24 : decode cX3_assignOpenTasks 24 = .ok (.ifCond .ge 5, 3) := by decide +kernel
theorem dX3_assignOpenTasks_27 : decode cX3_assignOpenTasks 27 = .ok (.iload_n 1, 1) := by decide +kernel
theorem dX3_assignOpenTasks_28 : decode cX3_assignOpenTasks 28 = .ok (.ireturn, 1) := by decide +kernel
theorem dX3_assignOpenTasks_29 : decode cX3_assignOpenTasks 29 = .ok (.aload_n 0, 1) := by decide +kernel
theorem dX3_assignOpenTasks_30 : decode cX3_assignOpenTasks 30 = .ok (.getfield 18, 3) := by decide +kernel
theorem dX3_assignOpenTasks_33 : decode cX3_assignOpenTasks 33 = .ok (.iload 4, 2) := by decide +kernel
theorem dX3_assignOpenTasks_35 : decode cX3_assignOpenTasks 35 = .ok (.invokevirtual 170, 3) := by decide +kernel
theorem dX3_assignOpenTasks_38 : decode cX3_assignOpenTasks 38 = .ok (.istore_n 2, 1) := by decide +kernel
theorem dX3_assignOpenTasks_39 : decode cX3_assignOpenTasks 39 = .ok (.aload_n 0, 1) := by decide +kernel
theorem dX3_assignOpenTasks_40 : decode cX3_assignOpenTasks 40 = .ok (.iload 4, 2) := by decide +kernel
theorem dX3_assignOpenTasks_42 : decode cX3_assignOpenTasks 42 = .ok (.iconst 1, 1) := by decide +kernel
theorem dX3_assignOpenTasks_43 : decode cX3_assignOpenTasks 43 = .ok (.invokevirtual 173, 3) := by decide +kernel
theorem dX3_assignOpenTasks_46 : decode cX3_assignOpenTasks 46 = .ok (.istore 5, 2) := by decide +kernel
theorem dX3_assignOpenTasks_48 : decode cX3_assignOpenTasks 48 = .ok (.iload 5, 2) := by decide +kernel
theorem dX3_assignOpenTasks_50 : decode cX3_assignOpenTasks 50 = .ok (.ifCond .lt 17, 3) := by decide +kernel
theorem dX3_assignOpenTasks_53 : decode cX3_assignOpenTasks 53 = .ok (.aload_n 0, 1) := by decide +kernel
theorem dX3_assignOpenTasks_54 : decode cX3_assignOpenTasks 54 = .ok (.iload 4, 2) := by decide +kernel
theorem dX3_assignOpenTasks_56 : decode cX3_assignOpenTasks 56 = .ok (.iload 5, 2) := by decide +kernel
theorem dX3_assignOpenTasks_58 : decode cX3_assignOpenTasks 58 = .ok (.invokevirtual 177, 3) := by decide +kernel
theorem dX3_assignOpenTasks_61 : decode cX3_assignOpenTasks 61 = .ok (.ifCond .ne 6, 3) := by decide +kernel
theorem dX3_assignOpenTasks_64 : decode cX3_assignOpenTasks 64 = .ok (.iinc 1 1, 3) := by decide +kernel
theorem dX3_assignOpenTasks_67 : decode cX3_assignOpenTasks 67 = .ok (.iinc 3 1, 3) := by decide +kernel
theorem dX3_assignOpenTasks_70 : decode cX3_assignOpenTasks 70 = .ok (.goto (-64), 3) := by decide +kernel
theorem dX3_assignOpenTasks_73 : decode cX3_assignOpenTasks 73 = .ok (.iload_n 1, 1) := by decide +kernel
theorem dX3_assignOpenTasks_74 : decode cX3_assignOpenTasks 74 = .ok (.ireturn, 1) := by decide +kernel
theorem dX4_init_0 : decode cX4_init 0 = .ok (.aload_n 0, 1) := by decide +kernel
theorem dX4_init_1 : decode cX4_init 1 = .ok (.invokespecial 3, 3) := by decide +kernel
theorem dX4_init_4 : decode cX4_init 4 = .ok (.aload_n 0, 1) := by decide +kernel
theorem dX4_init_5 : decode cX4_init 5 = .ok (.new 9, 3) := by decide +kernel
theorem dX4_init_8 : decode cX4_init 8 = .ok (.dup, 1) := by decide +kernel
theorem dX4_init_9 : decode cX4_init 9 = .ok (.invokespecial 11, 3) := by decide +kernel
theorem dX4_init_12 : decode cX4_init 12 = .ok (.putfield 12, 3) := by decide +kernel
theorem dX4_init_15 : decode cX4_init 15 = .ok (.aload_n 0, 1) := by decide +kernel
theorem dX4_init_16 : decode cX4_init 16 = .ok (.iconst 5, 1) := by decide +kernel
theorem dX4_init_17 : decode cX4_init 17 = .ok (.newarray .int, 2) := by decide +kernel
theorem dX4_init_19 : decode cX4_init 19 = .ok (.putfield 18, 3) := by decide +kernel
theorem dX4_init_22 : decode cX4_init 22 = .ok (.return_, 1) := by decide +kernel
theorem dX4_begin_0 : decode cX4_begin 0 = .ok (.aload_n 0, 1) := by decide +kernel
theorem dX4_begin_1 : decode cX4_begin 1 = .ok (.getfield 12, 3) := by decide +kernel
theorem dX4_begin_4 : decode cX4_begin 4 = .ok (.iload_n 1, 1) := by decide +kernel
theorem dX4_begin_5 : decode cX4_begin 5 = .ok (.iload_n 3, 1) := by decide +kernel
theorem dX4_begin_6 : decode cX4_begin 6 = .ok (.invokevirtual 22, 3) := by decide +kernel
theorem dX4_begin_9 : decode cX4_begin 9 = .ok (.aload_n 0, 1) := by decide +kernel
theorem dX4_begin_10 : decode cX4_begin 10 = .ok (.getfield 18, 3) := by decide +kernel
theorem dX4_begin_13 : decode cX4_begin 13 = .ok (.iconst 0, 1) := by decide +kernel
theorem dX4_begin_14 : decode cX4_begin 14 = .ok (.invokestatic 26, 3) := by decide +kernel
theorem dX4_begin_17 : decode cX4_begin 17 = .ok (.aload_n 0, 1) := by decide +kernel
theorem dX4_begin_18 : decode cX4_begin 18 = .ok (.iload_n 2, 1) := by decide +kernel
theorem dX4_begin_19 : decode cX4_begin 19 = .ok (.putfield 30, 3) := by decide +kernel
theorem dX4_begin_22 : decode cX4_begin 22 = .ok (.aload_n 0, 1) := by decide +kernel
theorem dX4_begin_23 : decode cX4_begin 23 = .ok (.iconst (-1), 1) := by decide +kernel
theorem dX4_begin_24 : decode cX4_begin 24 = .ok (.putfield 34, 3) := by decide +kernel
theorem dX4_begin_27 : decode cX4_begin 27 = .ok (.aload_n 0, 1) := by decide +kernel
theorem dX4_begin_28 : decode cX4_begin 28 = .ok (.iload_n 3, 1) := by decide +kernel
theorem dX4_begin_29 : decode cX4_begin 29 = .ok (.putfield 37, 3) := by decide +kernel
theorem dX4_begin_32 : decode cX4_begin 32 = .ok (.return_, 1) := by decide +kernel
theorem dX4_copyFrom_0 : decode cX4_copyFrom 0 = .ok (.aload_n 0, 1) := by decide +kernel
theorem dX4_copyFrom_1 : decode cX4_copyFrom 1 = .ok (.getfield 12, 3) := by decide +kernel
theorem dX4_copyFrom_4 : decode cX4_copyFrom 4 = .ok (.aload_n 1, 1) := by decide +kernel
theorem dX4_copyFrom_5 : decode cX4_copyFrom 5 = .ok (.getfield 12, 3) := by decide +kernel
theorem dX4_copyFrom_8 : decode cX4_copyFrom 8 = .ok (.invokevirtual 40, 3) := by decide +kernel
theorem dX4_copyFrom_11 : decode cX4_copyFrom 11 = .ok (.aload_n 1, 1) := by decide +kernel
theorem dX4_copyFrom_12 : decode cX4_copyFrom 12 = .ok (.getfield 18, 3) := by decide +kernel
theorem dX4_copyFrom_15 : decode cX4_copyFrom 15 = .ok (.aload_n 0, 1) := by decide +kernel
theorem dX4_copyFrom_16 : decode cX4_copyFrom 16 = .ok (.getfield 18, 3) := by decide +kernel
theorem dX4_copyFrom_19 : decode cX4_copyFrom 19 = .ok (.invokestatic 44, 3) := by decide +kernel
theorem dX4_copyFrom_22 : decode cX4_copyFrom 22 = .ok (.aload_n 0, 1) := by decide +kernel
theorem dX4_copyFrom_23 : decode cX4_copyFrom 23 = .ok (.aload_n 1, 1) := by decide +kernel
theorem dX4_copyFrom_24 : decode cX4_copyFrom 24 = .ok (.getfield 30, 3) := by decide +kernel
theorem dX4_copyFrom_27 : decode cX4_copyFrom 27 = .ok (.putfield 30, 3) := by decide +kernel
theorem dX4_copyFrom_30 : decode cX4_copyFrom 30 = .ok (.aload_n 0, 1) := by decide +kernel
theorem dX4_copyFrom_31 : decode cX4_copyFrom 31 = .ok (.aload_n 1, 1) := by decide +kernel
theorem dX4_copyFrom_32 : decode cX4_copyFrom 32 = .ok (.getfield 34, 3) := by decide +kernel
theorem dX4_copyFrom_35 : decode cX4_copyFrom 35 = .ok (.putfield 34, 3) := by decide +kernel
theorem dX4_copyFrom_38 : decode cX4_copyFrom 38 = .ok (.aload_n 0, 1) := by decide +kernel
theorem dX4_copyFrom_39 : decode cX4_copyFrom 39 = .ok (.aload_n 1, 1) := by decide +kernel
theorem dX4_copyFrom_40 : decode cX4_copyFrom 40 = .ok (.getfield 37, 3) := by decide +kernel
theorem dX4_copyFrom_43 : decode cX4_copyFrom 43 = .ok (.putfield 37, 3) := by decide +kernel
theorem dX4_copyFrom_46 : decode cX4_copyFrom 46 = .ok (.return_, 1) := by decide +kernel
theorem dX4_raiseStatistic_0 : decode cX4_raiseStatistic 0 = .ok (.aload_n 0, 1) := by decide +kernel
theorem dX4_raiseStatistic_1 : decode cX4_raiseStatistic 1 = .ok (.getfield 18, 3) := by decide +kernel
theorem dX4_raiseStatistic_4 : decode cX4_raiseStatistic 4 = .ok (.iload_n 1, 1) := by decide +kernel
theorem dX4_raiseStatistic_5 : decode cX4_raiseStatistic 5 = .ok (.aload_n 0, 1) := by decide +kernel
theorem dX4_raiseStatistic_6 : decode cX4_raiseStatistic 6 = .ok (.getfield 18, 3) := by decide +kernel
theorem dX4_raiseStatistic_9 : decode cX4_raiseStatistic 9 = .ok (.iload_n 1, 1) := by decide +kernel
theorem dX4_raiseStatistic_10 : decode cX4_raiseStatistic 10 = .ok (.invokestatic 48, 3) := by decide +kernel
theorem dX4_raiseStatistic_13 : decode cX4_raiseStatistic 13 = .ok (.iload_n 2, 1) := by decide +kernel
theorem dX4_raiseStatistic_14 : decode cX4_raiseStatistic 14 = .ok (.iadd, 1) := by decide +kernel
theorem dX4_raiseStatistic_15 : decode cX4_raiseStatistic 15 = .ok (.invokestatic 52, 3) := by decide +kernel
theorem dX4_raiseStatistic_18 : decode cX4_raiseStatistic 18 = .ok (.return_, 1) := by decide +kernel
theorem dX4_spend_0 : decode cX4_spend 0 = .ok (.aload_n 0, 1) := by decide +kernel
theorem dX4_spend_1 : decode cX4_spend 1 = .ok (.iload_n 1, 1) := by decide +kernel
theorem dX4_spend_2 : decode cX4_spend 2 = .ok (.iconst 1, 1) := by decide +kernel
theorem dX4_spend_3 : decode cX4_spend 3 = .ok (.invokevirtual 56, 3) := by decide +kernel
theorem dX4_spend_6 : decode cX4_spend 6 = .ok (.aload_n 0, 1) := by decide +kernel
theorem dX4_spend_7 : decode cX4_spend 7 = .ok (.dup, 1) := by decide +kernel
theorem dX4_spend_8 : decode cX4_spend 8 = .ok (.getfield 30, 3) := by decide +kernel
theorem dX4_spend_11 : decode cX4_spend 11 = .ok (.iload_n 2, 1) := by decide +kernel
theorem dX4_spend_12 : decode cX4_spend 12 = .ok (.isub, 1) := by decide +kernel
theorem dX4_spend_13 : decode cX4_spend 13 = .ok (.putfield 30, 3) := by decide +kernel
theorem dX4_spend_16 : decode cX4_spend 16 = .ok (.return_, 1) := by decide +kernel
theorem dX4_gain_0 : decode cX4_gain 0 = .ok (.iconst 5, 1) := by decide +kernel
theorem dX4_gain_1 : decode cX4_gain 1 = .ok (.bipush 100, 2) := by decide +kernel
theorem dX4_gain_3 : decode cX4_gain 3 = .ok (.aload_n 0, 1) := by decide +kernel
theorem dX4_gain_4 : decode cX4_gain 4 = .ok (.getfield 30, 3) := by decide +kernel
theorem dX4_gain_7 : decode cX4_gain 7 = .ok (.isub, 1) := by decide +kernel
theorem dX4_gain_8 : decode cX4_gain 8 = .ok (.invokestatic 59, 3) := by decide +kernel
theorem dX4_gain_11 : decode cX4_gain 11 = .ok (.istore_n 1, 1) := by decide +kernel
theorem dX4_gain_12 : decode cX4_gain 12 = .ok (.aload_n 0, 1) := by decide +kernel
theorem dX4_gain_13 : decode cX4_gain 13 = .ok (.dup, 1) := by decide +kernel
theorem dX4_gain_14 : decode cX4_gain 14 = .ok (.getfield 30, 3) := by decide +kernel
theorem dX4_gain_17 : decode cX4_gain 17 = .ok (.iload_n 1, 1) := by decide +kernel
theorem dX4_gain_18 : decode cX4_gain 18 = .ok (.iadd, 1) := by decide +kernel
theorem dX4_gain_19 : decode cX4_gain 19 = .ok (.putfield 30, 3) := by decide +kernel
theorem dX4_gain_22 : decode cX4_gain 22 = .ok (.aload_n 0, 1) := by decide +kernel
theorem dX4_gain_23 : decode cX4_gain 23 = .ok (.iconst 4, 1) := by decide +kernel
theorem dX4_gain_24 : decode cX4_gain 24 = .ok (.iload_n 1, 1) := by decide +kernel
theorem dX4_gain_25 : decode cX4_gain 25 = .ok (.invokevirtual 56, 3) := by decide +kernel
theorem dX4_gain_28 : decode cX4_gain 28 = .ok (.return_, 1) := by decide +kernel
theorem dX5_init_0 : decode cX5_init 0 = .ok (.aload_n 0, 1) := by decide +kernel
theorem dX5_init_1 : decode cX5_init 1 = .ok (.invokespecial 3, 3) := by decide +kernel
theorem dX5_init_4 : decode cX5_init 4 = .ok (.aload_n 0, 1) := by decide +kernel
theorem dX5_init_5 : decode cX5_init 5 = .ok (.bipush 14, 2) := by decide +kernel
theorem dX5_init_7 : decode cX5_init 7 = .ok (.newarray .int, 2) := by decide +kernel
theorem dX5_init_9 : decode cX5_init 9 = .ok (.putfield 9, 3) := by decide +kernel
theorem dX5_init_12 : decode cX5_init 12 = .ok (.aload_n 0, 1) := by decide +kernel
theorem dX5_init_13 : decode cX5_init 13 = .ok (.bipush 14, 2) := by decide +kernel
theorem dX5_init_15 : decode cX5_init 15 = .ok (.newarray .int, 2) := by decide +kernel
theorem dX5_init_17 : decode cX5_init 17 = .ok (.putfield 15, 3) := by decide +kernel
theorem dX5_init_20 : decode cX5_init 20 = .ok (.aload_n 0, 1) := by decide +kernel
theorem dX5_init_21 : decode cX5_init 21 = .ok (.bipush 14, 2) := by decide +kernel
theorem dX5_init_23 : decode cX5_init 23 = .ok (.newarray .int, 2) := by decide +kernel
theorem dX5_init_25 : decode cX5_init 25 = .ok (.putfield 18, 3) := by decide +kernel
theorem dX5_init_28 : decode cX5_init 28 = .ok (.aload_n 0, 1) := by decide +kernel
theorem dX5_init_29 : decode cX5_init 29 = .ok (.bipush 40, 2) := by decide +kernel
theorem dX5_init_31 : decode cX5_init 31 = .ok (.newarray .int, 2) := by decide +kernel
theorem dX5_init_33 : decode cX5_init 33 = .ok (.putfield 21, 3) := by decide +kernel
theorem dX5_init_36 : decode cX5_init 36 = .ok (.return_, 1) := by decide +kernel
theorem dX5_add_0 : decode cX5_add 0 = .ok (.aload_n 0, 1) := by decide +kernel
theorem dX5_add_1 : decode cX5_add 1 = .ok (.getfield 21, 3) := by decide +kernel
theorem dX5_add_4 : decode cX5_add 4 = .ok (.aload_n 0, 1) := by decide +kernel
theorem dX5_add_5 : decode cX5_add 5 = .ok (.getfield 24, 3) := by decide +kernel
theorem dX5_add_8 : decode cX5_add 8 = .ok (.iload_n 1, 1) := by decide +kernel
theorem dX5_add_9 : decode cX5_add 9 = .ok (.invokestatic 28, 3) := by decide +kernel
theorem dX5_add_12 : decode cX5_add 12 = .ok (.aload_n 0, 1) := by decide +kernel
theorem dX5_add_13 : decode cX5_add 13 = .ok (.dup, 1) := by decide +kernel
theorem dX5_add_14 : decode cX5_add 14 = .ok (.getfield 24, 3) := by decide +kernel
theorem dX5_add_17 : decode cX5_add 17 = .ok (.iconst 1, 1) := by decide +kernel
theorem dX5_add_18 : decode cX5_add 18 = .ok (.iadd, 1) := by decide +kernel
theorem dX5_add_19 : decode cX5_add 19 = .ok (.putfield 24, 3) := by decide +kernel
theorem dX5_add_22 : decode cX5_add 22 = .ok (.return_, 1) := by decide +kernel
theorem dX5_parse_0 : decode cX5_parse 0 = .ok (.aload_n 0, 1) := by decide +kernel
theorem dX5_parse_1 : decode cX5_parse 1 = .ok (.iconst 0, 1) := by decide +kernel
theorem dX5_parse_2 : decode cX5_parse 2 = .ok (.putfield 32, 3) := by decide +kernel
theorem dX5_parse_5 : decode cX5_parse 5 = .ok (.aload_n 0, 1) := by decide +kernel
theorem dX5_parse_6 : decode cX5_parse 6 = .ok (.iconst 0, 1) := by decide +kernel
theorem dX5_parse_7 : decode cX5_parse 7 = .ok (.putfield 35, 3) := by decide +kernel
theorem dX5_parse_10 : decode cX5_parse 10 = .ok (.aload_n 0, 1) := by decide +kernel
theorem dX5_parse_11 : decode cX5_parse 11 = .ok (.invokevirtual 38, 3) := by decide +kernel
theorem dX5_parse_14 : decode cX5_parse 14 = .ok (.ifCond .ne 8, 3) := by decide +kernel
theorem dX5_parse_17 : decode cX5_parse 17 = .ok (.aload_n 0, 1) := by decide +kernel
theorem dX5_parse_18 : decode cX5_parse 18 = .ok (.getfield 35, 3) := by decide +kernel
theorem dX5_parse_21 : decode cX5_parse 21 = .ok (.ireturn, 1) := by decide +kernel
theorem dX5_parse_22 : decode cX5_parse 22 = .ok (.aload_n 0, 1) := by decide +kernel
theorem dX5_parse_23 : decode cX5_parse 23 = .ok (.dup, 1) := by decide +kernel
theorem dX5_parse_24 : decode cX5_parse 24 = .ok (.getfield 32, 3) := by decide +kernel
theorem dX5_parse_27 : decode cX5_parse 27 = .ok (.iconst 1, 1) := by decide +kernel
theorem dX5_parse_28 : decode cX5_parse 28 = .ok (.iadd, 1) := by decide +kernel
theorem dX5_parse_29 : decode cX5_parse 29 = .ok (.putfield 32, 3) := by decide +kernel
theorem dX5_parse_32 : decode cX5_parse 32 = .ok (.aload_n 0, 1) := by decide +kernel
theorem dX5_parse_33 : decode cX5_parse 33 = .ok (.getfield 35, 3) := by decide +kernel
theorem dX5_parse_36 : decode cX5_parse 36 = .ok (.aload_n 0, 1) := by decide +kernel
theorem dX5_parse_37 : decode cX5_parse 37 = .ok (.getfield 24, 3) := by decide +kernel
theorem dX5_parse_40 : decode cX5_parse 40 = .ok (.if_icmp .ge 12, 3) := by decide +kernel
theorem dX5_parse_43 : decode cX5_parse 43 = .ok (.aload_n 0, 1) := by decide +kernel
theorem dX5_parse_44 : decode cX5_parse 44 = .ok (.getfield 32, 3) := by decide +kernel
theorem dX5_parse_47 : decode cX5_parse 47 = .ok (.bipush 14, 2) := by decide +kernel
theorem dX5_parse_49 : decode cX5_parse 49 = .ok (.if_icmp .lt (-39), 3) := by decide +kernel
theorem dX5_parse_52 : decode cX5_parse 52 = .ok (.aload_n 0, 1) := by decide +kernel
theorem dX5_parse_53 : decode cX5_parse 53 = .ok (.getfield 35, 3) := by decide +kernel
theorem dX5_parse_56 : decode cX5_parse 56 = .ok (.aload_n 0, 1) := by decide +kernel
theorem dX5_parse_57 : decode cX5_parse 57 = .ok (.getfield 24, 3) := by decide +kernel
theorem dX5_parse_60 : decode cX5_parse 60 = .ok (.if_icmp .ge 10, 3) := by decide +kernel
theorem dX5_parse_63 : decode cX5_parse 63 = .ok (.aload_n 0, 1) := by decide +kernel
theorem dX5_parse_64 : decode cX5_parse 64 = .ok (.getfield 35, 3) := by decide +kernel
theorem dX5_parse_67 : decode cX5_parse 67 = .ok (.goto 4, 3) := by decide +kernel
theorem dX5_parse_70 : decode cX5_parse 70 = .ok (.iconst (-1), 1) := by decide +kernel
theorem dX5_parse_71 : decode cX5_parse 71 = .ok (.ireturn, 1) := by decide +kernel
theorem dX5_parseEntry_0 : decode cX5_parseEntry 0 = .ok (.aload_n 0, 1) := by decide +kernel
theorem dX5_parseEntry_1 : decode cX5_parseEntry 1 = .ok (.invokevirtual 42, 3) := by decide +kernel
theorem dX5_parseEntry_4 : decode cX5_parseEntry 4 = .ok (.istore_n 1, 1) := by decide +kernel
theorem dX5_parseEntry_5 : decode cX5_parseEntry 5 = .ok (.iload_n 1, 1) := by decide +kernel
theorem dX5_parseEntry_6 : decode cX5_parseEntry 6 = .ok (.bipush 108, 2) := by decide +kernel
theorem dX5_parseEntry_8 : decode cX5_parseEntry 8 = .ok (.if_icmp .ne 7, 3) := by decide +kernel
theorem dX5_parseEntry_11 : decode cX5_parseEntry 11 = .ok (.iconst 1, 1) := by decide +kernel
theorem dX5_parseEntry_12 : decode cX5_parseEntry 12 = .ok (.goto 4, 3) := by decide +kernel
theorem dX5_parseEntry_15 : decode cX5_parseEntry 15 = .ok (.iconst 0, 1) := by decide +kernel
theorem dX5_parseEntry_16 : decode cX5_parseEntry 16 = .ok (.istore_n 2, 1) := by decide +kernel
theorem dX5_parseEntry_17 : decode cX5_parseEntry 17 = .ok (.iload_n 2, 1) := by decide +kernel
theorem dX5_parseEntry_18 : decode cX5_parseEntry 18 = .ok (.ifCond .ne 29, 3) := by decide +kernel
theorem dX5_parseEntry_21 : decode cX5_parseEntry 21 = .ok (.iload_n 1, 1) := by decide +kernel
theorem dX5_parseEntry_22 : decode cX5_parseEntry 22 = .ok (.bipush 119, 2) := by decide +kernel
theorem dX5_parseEntry_24 : decode cX5_parseEntry 24 = .ok (.if_icmp .eq 23, 3) := by decide +kernel
theorem dX5_parseEntry_27 : decode cX5_parseEntry 27 = .ok (.iload_n 1, 1) := by decide +kernel
theorem dX5_parseEntry_28 : decode cX5_parseEntry 28 = .ok (.bipush 99, 2) := by decide +kernel
theorem dX5_parseEntry_30 : decode cX5_parseEntry 30 = .ok (.if_icmp .eq 17, 3) := by decide +kernel
theorem dX5_parseEntry_33 : decode cX5_parseEntry 33 = .ok (.iload_n 1, 1) := by decide +kernel
theorem dX5_parseEntry_34 : decode cX5_parseEntry 34 = .ok (.bipush 102, 2) := by decide +kernel
theorem dX5_parseEntry_36 : decode cX5_parseEntry 36 = .ok (.if_icmp .eq 11, 3) := by decide +kernel
theorem dX5_parseEntry_39 : decode cX5_parseEntry 39 = .ok (.iload_n 1, 1) := by decide +kernel
theorem dX5_parseEntry_40 : decode cX5_parseEntry 40 = .ok (.bipush 114, 2) := by decide +kernel
theorem dX5_parseEntry_42 : decode cX5_parseEntry 42 = .ok (.if_icmp .eq 5, 3) := by decide +kernel
theorem dX5_parseEntry_45 : decode cX5_parseEntry 45 = .ok (.iconst 0, 1) := by decide +kernel
theorem dX5_parseEntry_46 : decode cX5_parseEntry 46 = .ok (.ireturn, 1) := by decide +kernel
theorem dX5_parseEntry_47 : decode cX5_parseEntry 47 = .ok (.aload_n 0, 1) := by decide +kernel
theorem dX5_parseEntry_48 : decode cX5_parseEntry 48 = .ok (.getfield 9, 3) := by decide +kernel
theorem dX5_parseEntry_51 : decode cX5_parseEntry 51 = .ok (.aload_n 0, 1) := by decide +kernel
theorem dX5_parseEntry_52 : decode cX5_parseEntry 52 = .ok (.getfield 32, 3) := by decide +kernel
theorem dX5_parseEntry_55 : decode cX5_parseEntry 55 = .ok (.iload_n 1, 1) := by decide +kernel
theorem dX5_parseEntry_56 : decode cX5_parseEntry 56 = .ok (.invokestatic 28, 3) := by decide +kernel
theorem dX5_parseEntry_59 : decode cX5_parseEntry 59 = .ok (.aload_n 0, 1) := by decide +kernel
theorem dX5_parseEntry_60 : decode cX5_parseEntry 60 = .ok (.dup, 1) := by decide +kernel
theorem dX5_parseEntry_61 : decode cX5_parseEntry 61 = .ok (.getfield 35, 3) := by decide +kernel
theorem dX5_parseEntry_64 : decode cX5_parseEntry 64 = .ok (.iconst 1, 1) := by decide +kernel
theorem dX5_parseEntry_65 : decode cX5_parseEntry 65 = .ok (.iadd, 1) := by decide +kernel
theorem dX5_parseEntry_66 : decode cX5_parseEntry 66 = .ok (.putfield 35, 3) := by decide +kernel
theorem dX5_parseEntry_69 : decode cX5_parseEntry 69 = .ok (.aload_n 0, 1) := by decide +kernel
theorem dX5_parseEntry_70 : decode cX5_parseEntry 70 = .ok (.invokevirtual 46, 3) := by decide +kernel
theorem dX5_parseEntry_73 : decode cX5_parseEntry 73 = .ok (.ifCond .ne 5, 3) := by decide +kernel
theorem dX5_parseEntry_76 : decode cX5_parseEntry 76 = .ok (.iconst 0, 1) := by decide +kernel
theorem dX5_parseEntry_77 : decode cX5_parseEntry 77 = .ok (.ireturn, 1) := by decide +kernel
theorem dX5_parseEntry_78 : decode cX5_parseEntry 78 = .ok (.aload_n 0, 1) := by decide +kernel
theorem dX5_parseEntry_79 : decode cX5_parseEntry 79 = .ok (.getfield 15, 3) := by decide +kernel
theorem dX5_parseEntry_82 : decode cX5_parseEntry 82 = .ok (.aload_n 0, 1) := by decide +kernel
theorem dX5_parseEntry_83 : decode cX5_parseEntry 83 = .ok (.getfield 32, 3) := by decide +kernel
theorem dX5_parseEntry_86 : decode cX5_parseEntry 86 = .ok (.aload_n 0, 1) := by decide +kernel
theorem dX5_parseEntry_87 : decode cX5_parseEntry 87 = .ok (.getfield 49, 3) := by decide +kernel
theorem dX5_parseEntry_90 : decode cX5_parseEntry 90 = .ok (.invokestatic 28, 3) := by decide +kernel
theorem dX5_parseEntry_93 : decode cX5_parseEntry 93 = .ok (.iload_n 2, 1) := by decide +kernel
theorem dX5_parseEntry_94 : decode cX5_parseEntry 94 = .ok (.ifCond .eq 21, 3) := by decide +kernel
theorem dX5_parseEntry_97 : decode cX5_parseEntry 97 = .ok (.aload_n 0, 1) := by decide +kernel
theorem dX5_parseEntry_98 : decode cX5_parseEntry 98 = .ok (.bipush 45, 2) := by decide +kernel
theorem dX5_parseEntry_100 : decode cX5_parseEntry 100 = .ok (.invokevirtual 52, 3) := by decide +kernel
theorem dX5_parseEntry_103 : decode cX5_parseEntry 103 = .ok (.ifCond .eq 10, 3) := by decide +kernel
theorem dX5_parseEntry_106 : decode cX5_parseEntry 106 = .ok (.aload_n 0, 1) := by decide +kernel
theorem dX5_parseEntry_107 : decode cX5_parseEntry 107 = .ok (.invokevirtual 46, 3) := by decide +kernel
theorem dX5_parseEntry_110 : decode cX5_parseEntry 110 = .ok (.ifCond .ne 5, 3) := by decide +kernel
theorem dX5_parseEntry_113 : decode cX5_parseEntry 113 = .ok (.iconst 0, 1) := by decide +kernel
theorem dX5_parseEntry_114 : decode cX5_parseEntry 114 = .ok (.ireturn, 1) := by decide +kernel
theorem dX5_parseEntry_115 : decode cX5_parseEntry 115 = .ok (.aload_n 0, 1) := by decide +kernel
theorem dX5_parseEntry_116 : decode cX5_parseEntry 116 = .ok (.getfield 18, 3) := by decide +kernel
theorem dX5_parseEntry_119 : decode cX5_parseEntry 119 = .ok (.aload_n 0, 1) := by decide +kernel
theorem dX5_parseEntry_120 : decode cX5_parseEntry 120 = .ok (.getfield 32, 3) := by decide +kernel
theorem dX5_parseEntry_123 : decode cX5_parseEntry 123 = .ok (.aload_n 0, 1) := by decide +kernel
theorem dX5_parseEntry_124 : decode cX5_parseEntry 124 = .ok (.getfield 49, 3) := by decide +kernel
theorem dX5_parseEntry_127 : decode cX5_parseEntry 127 = .ok (.invokestatic 28, 3) := by decide +kernel
theorem dX5_parseEntry_130 : decode cX5_parseEntry 130 = .ok (.aload_n 0, 1) := by decide +kernel
theorem dX5_parseEntry_131 : decode cX5_parseEntry 131 = .ok (.bipush 59, 2) := by decide +kernel
theorem dX5_parseEntry_133 : decode cX5_parseEntry 133 = .ok (.invokevirtual 52, 3) := by decide +kernel
theorem dX5_parseEntry_136 : decode cX5_parseEntry 136 = .ok (.ireturn, 1) := by decide +kernel
theorem dX5_parseNumber_0 : decode cX5_parseNumber 0 = .ok (.aload_n 0, 1) := by decide +kernel
theorem dX5_parseNumber_1 : decode cX5_parseNumber 1 = .ok (.invokevirtual 42, 3) := by decide +kernel
theorem dX5_parseNumber_4 : decode cX5_parseNumber 4 = .ok (.invokestatic 56, 3) := by decide +kernel
theorem dX5_parseNumber_7 : decode cX5_parseNumber 7 = .ok (.ifCond .ne 5, 3) := by decide +kernel
theorem dX5_parseNumber_10 : decode cX5_parseNumber 10 = .ok (.iconst 0, 1) := by decide +kernel
theorem dX5_parseNumber_11 : decode cX5_parseNumber 11 = .ok (.ireturn, 1) := by decide +kernel
theorem dX5_parseNumber_12 : decode cX5_parseNumber 12 = .ok (.aload_n 0, 1) := by decide +kernel
theorem dX5_parseNumber_13 : decode cX5_parseNumber 13 = .ok (.aload_n 0, 1) := by decide +kernel
theorem dX5_parseNumber_14 : decode cX5_parseNumber 14 = .ok (.invokevirtual 42, 3) := by decide +kernel
theorem dX5_parseNumber_17 : decode cX5_parseNumber 17 = .ok (.bipush 48, 2) := by decide +kernel
theorem dX5_parseNumber_19 : decode cX5_parseNumber 19 = .ok (.isub, 1) := by decide +kernel
theorem dX5_parseNumber_20 : decode cX5_parseNumber 20 = .ok (.putfield 49, 3) := by decide +kernel
theorem dX5_parseNumber_23 : decode cX5_parseNumber 23 = .ok (.aload_n 0, 1) := by decide +kernel
theorem dX5_parseNumber_24 : decode cX5_parseNumber 24 = .ok (.dup, 1) := by decide +kernel
theorem dX5_parseNumber_25 : decode cX5_parseNumber 25 = .ok (.getfield 35, 3) := by decide +kernel
theorem dX5_parseNumber_28 : decode cX5_parseNumber 28 = .ok (.iconst 1, 1) := by decide +kernel
theorem dX5_parseNumber_29 : decode cX5_parseNumber 29 = .ok (.iadd, 1) := by decide +kernel
theorem dX5_parseNumber_30 : decode cX5_parseNumber 30 = .ok (.putfield 35, 3) := by decide +kernel
theorem dX5_parseNumber_33 : decode cX5_parseNumber 33 = .ok (.aload_n 0, 1) := by decide +kernel
theorem dX5_parseNumber_34 : decode cX5_parseNumber 34 = .ok (.invokevirtual 42, 3) := by decide +kernel
theorem dX5_parseNumber_37 : decode cX5_parseNumber 37 = .ok (.invokestatic 56, 3) := by decide +kernel
theorem dX5_parseNumber_40 : decode cX5_parseNumber 40 = .ok (.ifCond .ne 5, 3) := by decide +kernel
theorem dX5_parseNumber_43 : decode cX5_parseNumber 43 = .ok (.iconst 1, 1) := by decide +kernel
theorem dX5_parseNumber_44 : decode cX5_parseNumber 44 = .ok (.ireturn, 1) := by decide +kernel
theorem dX5_parseNumber_45 : decode cX5_parseNumber 45 = .ok (.aload_n 0, 1) := by decide +kernel
theorem dX5_parseNumber_46 : decode cX5_parseNumber 46 = .ok (.aload_n 0, 1) := by decide +kernel
theorem dX5_parseNumber_47 : decode cX5_parseNumber 47 = .ok (.getfield 49, 3) := by decide +kernel
theorem dX5_parseNumber_50 : decode cX5_parseNumber 50 = .ok (.bipush 10, 2) := by decide +kernel
theorem dX5_parseNumber_52 : decode cX5_parseNumber 52 = .ok (.imul, 1) := by decide +kernel
theorem dX5_parseNumber_53 : decode cX5_parseNumber 53 = .ok (.aload_n 0, 1) := by decide +kernel
theorem dX5_parseNumber_54 : decode cX5_parseNumber 54 = .ok (.invokevirtual 42, 3) := by decide +kernel
theorem dX5_parseNumber_57 : decode cX5_parseNumber 57 = .ok (.bipush 48, 2) := by decide +kernel
theorem dX5_parseNumber_59 : decode cX5_parseNumber 59 = .ok (.isub, 1) := by decide +kernel
theorem dX5_parseNumber_60 : decode cX5_parseNumber 60 = .ok (.iadd, 1) := by decide +kernel
theorem dX5_parseNumber_61 : decode cX5_parseNumber 61 = .ok (.putfield 49, 3) := by decide +kernel
theorem dX5_parseNumber_64 : decode cX5_parseNumber 64 = .ok (.aload_n 0, 1) := by decide +kernel
theorem dX5_parseNumber_65 : decode cX5_parseNumber 65 = .ok (.getfield 49, 3) := by decide +kernel
theorem dX5_parseNumber_68 : decode cX5_parseNumber 68 = .ok (.invokestatic 60, 3) := by decide +kernel
theorem dX5_parseNumber_71 : decode cX5_parseNumber 71 = .ok (.ifCond .ne 5, 3) := by decide +kernel
theorem dX5_parseNumber_74 : decode cX5_parseNumber 74 = .ok (.iconst 0, 1) := by decide +kernel
theorem dX5_parseNumber_75 : decode cX5_parseNumber 75 = .ok (.ireturn, 1) := by decide +kernel
theorem dX5_parseNumber_76 : decode cX5_parseNumber 76 = .ok (.aload_n 0, 1) := by decide +kernel
theorem dX5_parseNumber_77 : decode cX5_parseNumber 77 = .ok (.dup, 1) := by decide +kernel
theorem dX5_parseNumber_78 : decode cX5_parseNumber 78 = .ok (.getfield 35, 3) := by decide +kernel
theorem dX5_parseNumber_81 : decode cX5_parseNumber 81 = .ok (.iconst 1, 1) := by decide +kernel
theorem dX5_parseNumber_82 : decode cX5_parseNumber 82 = .ok (.iadd, 1) := by decide +kernel
theorem dX5_parseNumber_83 : decode cX5_parseNumber 83 = .ok (.putfield 35, 3) := by decide +kernel
theorem dX5_parseNumber_86 : decode cX5_parseNumber 86 = .ok (.iconst 1, 1) := by decide +kernel
theorem dX5_parseNumber_87 : decode cX5_parseNumber 87 = .ok (.ireturn, 1) := by decide +kernel
theorem dX5_parseSign_0 : decode cX5_parseSign 0 = .ok (.aload_n 0, 1) := by decide +kernel
theorem dX5_parseSign_1 : decode cX5_parseSign 1 = .ok (.invokevirtual 42, 3) := by decide +kernel
theorem dX5_parseSign_4 : decode cX5_parseSign 4 = .ok (.iload_n 1, 1) := by decide +kernel
theorem dX5_parseSign_5 : decode cX5_parseSign 5 = .ok (.if_icmp .eq 5, 3) := by decide +kernel
theorem dX5_parseSign_8 : decode cX5_parseSign 8 = .ok (.iconst 0, 1) := by decide +kernel
theorem dX5_parseSign_9 : decode cX5_parseSign 9 = .ok (.ireturn, 1) := by decide +kernel
theorem dX5_parseSign_10 : decode cX5_parseSign 10 = .ok (.aload_n 0, 1) := by decide +kernel
theorem dX5_parseSign_11 : decode cX5_parseSign 11 = .ok (.dup, 1) := by decide +kernel
theorem dX5_parseSign_12 : decode cX5_parseSign 12 = .ok (.getfield 35, 3) := by decide +kernel
theorem dX5_parseSign_15 : decode cX5_parseSign 15 = .ok (.iconst 1, 1) := by decide +kernel
theorem dX5_parseSign_16 : decode cX5_parseSign 16 = .ok (.iadd, 1) := by decide +kernel
theorem dX5_parseSign_17 : decode cX5_parseSign 17 = .ok (.putfield 35, 3) := by decide +kernel
theorem dX5_parseSign_20 : decode cX5_parseSign 20 = .ok (.iconst 1, 1) := by decide +kernel
theorem dX5_parseSign_21 : decode cX5_parseSign 21 = .ok (.ireturn, 1) := by decide +kernel
theorem dX5_peek_0 : decode cX5_peek 0 = .ok (.aload_n 0, 1) := by decide +kernel
theorem dX5_peek_1 : decode cX5_peek 1 = .ok (.getfield 35, 3) := by decide +kernel
theorem dX5_peek_4 : decode cX5_peek 4 = .ok (.aload_n 0, 1) := by decide +kernel
theorem dX5_peek_5 : decode cX5_peek 5 = .ok (.getfield 24, 3) := by decide +kernel
theorem dX5_peek_8 : decode cX5_peek 8 = .ok (.if_icmp .ge 17, 3) := by decide +kernel
theorem dX5_peek_11 : decode cX5_peek 11 = .ok (.aload_n 0, 1) := by decide +kernel
theorem dX5_peek_12 : decode cX5_peek 12 = .ok (.getfield 21, 3) := by decide +kernel
theorem dX5_peek_15 : decode cX5_peek 15 = .ok (.aload_n 0, 1) := by decide +kernel
theorem dX5_peek_16 : decode cX5_peek 16 = .ok (.getfield 35, 3) := by decide +kernel
theorem dX5_peek_19 : decode cX5_peek 19 = .ok (.invokestatic 63, 3) := by decide +kernel
theorem dX5_peek_22 : decode cX5_peek 22 = .ok (.goto 4, 3) := by decide +kernel
theorem dX5_peek_25 : decode cX5_peek 25 = .ok (.iconst (-1), 1) := by decide +kernel
theorem dX5_peek_26 : decode cX5_peek 26 = .ok (.ireturn, 1) := by decide +kernel
theorem dX5_isDigit_0 : decode cX5_isDigit 0 = .ok (.iload_n 0, 1) := by decide +kernel
theorem dX5_isDigit_1 : decode cX5_isDigit 1 = .ok (.bipush 48, 2) := by decide +kernel
theorem dX5_isDigit_3 : decode cX5_isDigit 3 = .ok (.if_icmp .lt 13, 3) := by decide +kernel
theorem dX5_isDigit_6 : decode cX5_isDigit 6 = .ok (.iload_n 0, 1) := by decide +kernel
theorem dX5_isDigit_7 : decode cX5_isDigit 7 = .ok (.bipush 57, 2) := by decide +kernel
theorem dX5_isDigit_9 : decode cX5_isDigit 9 = .ok (.if_icmp .gt 7, 3) := by decide +kernel
theorem dX5_isDigit_12 : decode cX5_isDigit 12 = .ok (.iconst 1, 1) := by decide +kernel
theorem dX5_isDigit_13 : decode cX5_isDigit 13 = .ok (.goto 4, 3) := by decide +kernel
theorem dX5_isDigit_16 : decode cX5_isDigit 16 = .ok (.iconst 0, 1) := by decide +kernel
theorem dX5_isDigit_17 : decode cX5_isDigit 17 = .ok (.ireturn, 1) := by decide +kernel
theorem dX6_init_0 : decode cX6_init 0 = .ok (.aload_n 0, 1) := by decide +kernel
theorem dX6_init_1 : decode cX6_init 1 = .ok (.invokespecial 3, 3) := by decide +kernel
theorem dX6_init_4 : decode cX6_init 4 = .ok (.aload_n 0, 1) := by decide +kernel
theorem dX6_init_5 : decode cX6_init 5 = .ok (.bipush 6, 2) := by decide +kernel
theorem dX6_init_7 : decode cX6_init 7 = .ok (.newarray .int, 2) := by decide +kernel
theorem dX6_init_9 : decode cX6_init 9 = .ok (.putfield 9, 3) := by decide +kernel
theorem dX6_init_12 : decode cX6_init 12 = .ok (.aload_n 0, 1) := by decide +kernel
theorem dX6_init_13 : decode cX6_init 13 = .ok (.bipush 24, 2) := by decide +kernel
theorem dX6_init_15 : decode cX6_init 15 = .ok (.newarray .int, 2) := by decide +kernel
theorem dX6_init_17 : decode cX6_init 17 = .ok (.putfield 15, 3) := by decide +kernel
theorem dX6_init_20 : decode cX6_init 20 = .ok (.return_, 1) := by decide +kernel
theorem dX6_store_0 : decode cX6_store 0 = .ok (.aload_n 0, 1) := by decide +kernel
theorem dX6_store_1 : decode cX6_store 1 = .ok (.getfield 9, 3) := by decide +kernel
theorem dX6_store_4 : decode cX6_store 4 = .ok (.iload_n 1, 1) := by decide +kernel
theorem dX6_store_5 : decode cX6_store 5 = .ok (.iconst 1, 1) := by decide +kernel
theorem dX6_store_6 : decode cX6_store 6 = .ok (.invokestatic 18, 3) := by decide +kernel
theorem dX6_store_9 : decode cX6_store 9 = .ok (.aload_n 0, 1) := by decide +kernel
theorem dX6_store_10 : decode cX6_store 10 = .ok (.getfield 15, 3) := by decide +kernel
theorem dX6_store_13 : decode cX6_store 13 = .ok (.iload_n 1, 1) := by decide +kernel
theorem dX6_store_14 : decode cX6_store 14 = .ok (.iconst 4, 1) := by decide +kernel
theorem dX6_store_15 : decode cX6_store 15 = .ok (.imul, 1) := by decide +kernel
theorem dX6_store_16 : decode cX6_store 16 = .ok (.iload_n 2, 1) := by decide +kernel
theorem dX6_store_17 : decode cX6_store 17 = .ok (.invokestatic 18, 3) := by decide +kernel
theorem dX6_store_20 : decode cX6_store 20 = .ok (.aload_n 0, 1) := by decide +kernel
theorem dX6_store_21 : decode cX6_store 21 = .ok (.getfield 15, 3) := by decide +kernel
theorem dX6_store_24 : decode cX6_store 24 = .ok (.iload_n 1, 1) := by decide +kernel
theorem dX6_store_25 : decode cX6_store 25 = .ok (.iconst 4, 1) := by decide +kernel
theorem dX6_store_26 : decode cX6_store 26 = .ok (.imul, 1) := by decide +kernel
theorem dX6_store_27 : decode cX6_store 27 = .ok (.iconst 1, 1) := by decide +kernel
theorem dX6_store_28 : decode cX6_store 28 = .ok (.iadd, 1) := by decide +kernel
theorem dX6_store_29 : decode cX6_store 29 = .ok (.iload_n 3, 1) := by decide +kernel
theorem dX6_store_30 : decode cX6_store 30 = .ok (.invokestatic 18, 3) := by decide +kernel
theorem dX6_store_33 : decode cX6_store 33 = .ok (.aload_n 0, 1) := by decide +kernel
theorem dX6_store_34 : decode cX6_store 34 = .ok (.getfield 15, 3) := by decide +kernel
theorem dX6_store_37 : decode cX6_store 37 = .ok (.iload_n 1, 1) := by decide +kernel
theorem dX6_store_38 : decode cX6_store 38 = .ok (.iconst 4, 1) := by decide +kernel
theorem dX6_store_39 : decode cX6_store 39 = .ok (.imul, 1) := by decide +kernel
theorem dX6_store_40 : decode cX6_store 40 = .ok (.iconst 2, 1) := by decide +kernel
theorem dX6_store_41 : decode cX6_store 41 = .ok (.iadd, 1) := by decide +kernel
theorem dX6_store_42 : decode cX6_store 42 = .ok (.iload 4, 2) := by decide +kernel
theorem dX6_store_44 : decode cX6_store 44 = .ok (.invokestatic 18, 3) := by decide +kernel
theorem dX6_store_47 : decode cX6_store 47 = .ok (.aload_n 0, 1) := by decide +kernel
theorem dX6_store_48 : decode cX6_store 48 = .ok (.getfield 15, 3) := by decide +kernel
theorem dX6_store_51 : decode cX6_store 51 = .ok (.iload_n 1, 1) := by decide +kernel
theorem dX6_store_52 : decode cX6_store 52 = .ok (.iconst 4, 1) := by decide +kernel
theorem dX6_store_53 : decode cX6_store 53 = .ok (.imul, 1) := by decide +kernel
theorem dX6_store_54 : decode cX6_store 54 = .ok (.iconst 3, 1) := by decide +kernel
theorem dX6_store_55 : decode cX6_store 55 = .ok (.iadd, 1) := by decide +kernel
theorem dX6_store_56 : decode cX6_store 56 = .ok (.iload 5, 2) := by decide +kernel
theorem dX6_store_58 : decode cX6_store 58 = .ok (.invokestatic 18, 3) := by decide +kernel
theorem dX6_store_61 : decode cX6_store 61 = .ok (.return_, 1) := by decide +kernel
theorem dX6_held_0 : decode cX6_held 0 = .ok (.iconst 0, 1) := by decide +kernel
theorem dX6_held_1 : decode cX6_held 1 = .ok (.istore_n 2, 1) := by decide +kernel
theorem dX6_held_2 : decode cX6_held 2 = .ok (.iconst 0, 1) := by decide +kernel
theorem dX6_held_3 : decode cX6_held 3 = .ok (.istore_n 3, 1) := by decide +kernel
theorem dX6_held_4 : decode cX6_held 4 = .ok (.iload_n 3, 1) := by decide +kernel
theorem dX6_held_5 : decode cX6_held 5 = .ok (.iconst 3, 1) := by decide +kernel
theorem dX6_held_6 : decode cX6_held 6 = .ok (.if_icmp .ge 24, 3) := by decide +kernel
theorem dX6_held_9 : decode cX6_held 9 = .ok (.iload_n 2, 1) := by decide +kernel
theorem dX6_held_10 : decode cX6_held 10 = .ok (.aload_n 0, 1) := by decide +kernel
theorem dX6_held_11 : decode cX6_held 11 = .ok (.getfield 9, 3) := by decide +kernel
theorem dX6_held_14 : decode cX6_held 14 = .ok (.iload_n 1, 1) := by decide +kernel
theorem dX6_held_15 : decode cX6_held 15 = .ok (.iconst 3, 1) := by decide +kernel
theorem dX6_held_16 : decode cX6_held 16 = .ok (.imul, 1) := by decide +kernel
theorem dX6_held_17 : decode cX6_held 17 = .ok (.iload_n 3, 1) := by decide +kernel
theorem dX6_held_18 : decode cX6_held 18 = .ok (.iadd, 1) := by decide +kernel
theorem dX6_held_19 : decode cX6_held 19 = .ok (.invokestatic 22, 3) := by decide +kernel
theorem dX6_held_22 : decode cX6_held 22 = .ok (.iadd, 1) := by decide +kernel
theorem dX6_held_23 : decode cX6_held 23 = .ok (.istore_n 2, 1) := by decide +kernel
theorem dX6_held_24 : decode cX6_held 24 = .ok (.iinc 3 1, 3) := by decide +kernel
theorem dX6_held_27 : decode cX6_held 27 = .ok (.goto (-23), 3) := by decide +kernel
theorem dX6_held_30 : decode cX6_held 30 = .ok (.iload_n 2, 1) := by decide +kernel
theorem dX6_held_31 : decode cX6_held 31 = .ok (.ireturn, 1) := by decide +kernel
theorem dX7_init_0 : decode cX7_init 0 = .ok (.aload_n 0, 1) := by decide +kernel
theorem dX7_init_1 : decode cX7_init 1 = .ok (.invokespecial 3, 3) := by decide +kernel
theorem dX7_init_4 : decode cX7_init 4 = .ok (.return_, 1) := by decide +kernel
theorem dX7_begin_0 : decode cX7_begin 0 = .ok (.aload_n 0, 1) := by decide +kernel
theorem dX7_begin_1 : decode cX7_begin 1 = .ok (.iload_n 1, 1) := by decide +kernel
theorem dX7_begin_2 : decode cX7_begin 2 = .ok (.putfield 9, 3) := by decide +kernel
theorem dX7_begin_5 : decode cX7_begin 5 = .ok (.aload_n 0, 1) := by decide +kernel
theorem dX7_begin_6 : decode cX7_begin 6 = .ok (.iload_n 2, 1) := by decide +kernel
theorem dX7_begin_7 : decode cX7_begin 7 = .ok (.putfield 15, 3) := by decide +kernel
theorem dX7_begin_10 : decode cX7_begin 10 = .ok (.aload_n 0, 1) := by decide +kernel
theorem dX7_begin_11 : decode cX7_begin 11 = .ok (.iload_n 3, 1) := by decide +kernel
theorem dX7_begin_12 : decode cX7_begin 12 = .ok (.putfield 18, 3) := by decide +kernel
theorem dX7_begin_15 : decode cX7_begin 15 = .ok (.aload_n 0, 1) := by decide +kernel
theorem dX7_begin_16 : decode cX7_begin 16 = .ok (.iload 4, 2) := by decide +kernel
theorem dX7_begin_18 : decode cX7_begin 18 = .ok (.putfield 21, 3) := by decide +kernel
theorem dX7_begin_21 : decode cX7_begin 21 = .ok (.aload_n 0, 1) := by decide +kernel
theorem dX7_begin_22 : decode cX7_begin 22 = .ok (.iload 5, 2) := by decide +kernel
theorem dX7_begin_24 : decode cX7_begin 24 = .ok (.putfield 24, 3) := by decide +kernel
theorem dX7_begin_27 : decode cX7_begin 27 = .ok (.aload_n 0, 1) := by decide +kernel
theorem dX7_begin_28 : decode cX7_begin 28 = .ok (.iconst (-1), 1) := by decide +kernel
theorem dX7_begin_29 : decode cX7_begin 29 = .ok (.putfield 27, 3) := by decide +kernel
theorem dX7_begin_32 : decode cX7_begin 32 = .ok (.aload_n 0, 1) := by decide +kernel
theorem dX7_begin_33 : decode cX7_begin 33 = .ok (.iconst 0, 1) := by decide +kernel
theorem dX7_begin_34 : decode cX7_begin 34 = .ok (.iconst 0, 1) := by decide +kernel
theorem dX7_begin_35 : decode cX7_begin 35 = .ok (.iconst (-1), 1) := by decide +kernel
theorem dX7_begin_36 : decode cX7_begin 36 = .ok (.invokevirtual 30, 3) := by decide +kernel
theorem dX7_begin_39 : decode cX7_begin 39 = .ok (.return_, 1) := by decide +kernel
theorem dX7_copyFrom_0 : decode cX7_copyFrom 0 = .ok (.aload_n 0, 1) := by decide +kernel
theorem dX7_copyFrom_1 : decode cX7_copyFrom 1 = .ok (.aload_n 1, 1) := by decide +kernel
theorem dX7_copyFrom_2 : decode cX7_copyFrom 2 = .ok (.getfield 9, 3) := by decide +kernel
theorem dX7_copyFrom_5 : decode cX7_copyFrom 5 = .ok (.putfield 9, 3) := by decide +kernel
theorem dX7_copyFrom_8 : decode cX7_copyFrom 8 = .ok (.aload_n 0, 1) := by decide +kernel
theorem dX7_copyFrom_9 : decode cX7_copyFrom 9 = .ok (.aload_n 1, 1) := by decide +kernel
theorem dX7_copyFrom_10 : decode cX7_copyFrom 10 = .ok (.getfield 15, 3) := by decide +kernel
theorem dX7_copyFrom_13 : decode cX7_copyFrom 13 = .ok (.putfield 15, 3) := by decide +kernel
theorem dX7_copyFrom_16 : decode cX7_copyFrom 16 = .ok (.aload_n 0, 1) := by decide +kernel
theorem dX7_copyFrom_17 : decode cX7_copyFrom 17 = .ok (.aload_n 1, 1) := by decide +kernel
theorem dX7_copyFrom_18 : decode cX7_copyFrom 18 = .ok (.getfield 18, 3) := by decide +kernel
theorem dX7_copyFrom_21 : decode cX7_copyFrom 21 = .ok (.putfield 18, 3) := by decide +kernel
theorem dX7_copyFrom_24 : decode cX7_copyFrom 24 = .ok (.aload_n 0, 1) := by decide +kernel
theorem dX7_copyFrom_25 : decode cX7_copyFrom 25 = .ok (.aload_n 1, 1) := by decide +kernel
theorem dX7_copyFrom_26 : decode cX7_copyFrom 26 = .ok (.getfield 21, 3) := by decide +kernel
theorem dX7_copyFrom_29 : decode cX7_copyFrom 29 = .ok (.putfield 21, 3) := by decide +kernel
theorem dX7_copyFrom_32 : decode cX7_copyFrom 32 = .ok (.aload_n 0, 1) := by decide +kernel
theorem dX7_copyFrom_33 : decode cX7_copyFrom 33 = .ok (.aload_n 1, 1) := by decide +kernel
theorem dX7_copyFrom_34 : decode cX7_copyFrom 34 = .ok (.getfield 24, 3) := by decide +kernel
theorem dX7_copyFrom_37 : decode cX7_copyFrom 37 = .ok (.putfield 24, 3) := by decide +kernel
theorem dX7_copyFrom_40 : decode cX7_copyFrom 40 = .ok (.aload_n 0, 1) := by decide +kernel
theorem dX7_copyFrom_41 : decode cX7_copyFrom 41 = .ok (.aload_n 1, 1) := by decide +kernel
theorem dX7_copyFrom_42 : decode cX7_copyFrom 42 = .ok (.getfield 27, 3) := by decide +kernel
theorem dX7_copyFrom_45 : decode cX7_copyFrom 45 = .ok (.putfield 27, 3) := by decide +kernel
theorem dX7_copyFrom_48 : decode cX7_copyFrom 48 = .ok (.aload_n 0, 1) := by decide +kernel
theorem dX7_copyFrom_49 : decode cX7_copyFrom 49 = .ok (.aload_n 1, 1) := by decide +kernel
theorem dX7_copyFrom_50 : decode cX7_copyFrom 50 = .ok (.getfield 34, 3) := by decide +kernel
theorem dX7_copyFrom_53 : decode cX7_copyFrom 53 = .ok (.aload_n 1, 1) := by decide +kernel
theorem dX7_copyFrom_54 : decode cX7_copyFrom 54 = .ok (.getfield 37, 3) := by decide +kernel
theorem dX7_copyFrom_57 : decode cX7_copyFrom 57 = .ok (.aload_n 1, 1) := by decide +kernel
theorem dX7_copyFrom_58 : decode cX7_copyFrom 58 = .ok (.getfield 40, 3) := by decide +kernel
theorem dX7_copyFrom_61 : decode cX7_copyFrom 61 = .ok (.invokevirtual 30, 3) := by decide +kernel
theorem dX7_copyFrom_64 : decode cX7_copyFrom 64 = .ok (.return_, 1) := by decide +kernel
theorem dX7_become_0 : decode cX7_become 0 = .ok (.aload_n 0, 1) := by decide +kernel
theorem dX7_become_1 : decode cX7_become 1 = .ok (.iload_n 1, 1) := by decide +kernel
theorem dX7_become_2 : decode cX7_become 2 = .ok (.putfield 34, 3) := by decide +kernel
theorem dX7_become_5 : decode cX7_become 5 = .ok (.aload_n 0, 1) := by decide +kernel
theorem dX7_become_6 : decode cX7_become 6 = .ok (.iload_n 2, 1) := by decide +kernel
theorem dX7_become_7 : decode cX7_become 7 = .ok (.putfield 37, 3) := by decide +kernel
theorem dX7_become_10 : decode cX7_become 10 = .ok (.aload_n 0, 1) := by decide +kernel
theorem dX7_become_11 : decode cX7_become 11 = .ok (.iload_n 3, 1) := by decide +kernel
theorem dX7_become_12 : decode cX7_become 12 = .ok (.putfield 40, 3) := by decide +kernel
theorem dX7_become_15 : decode cX7_become 15 = .ok (.return_, 1) := by decide +kernel
theorem dX8_init_0 : decode cX8_init 0 = .ok (.aload_n 0, 1) := by decide +kernel
theorem dX8_init_1 : decode cX8_init 1 = .ok (.invokespecial 3, 3) := by decide +kernel
theorem dX8_init_4 : decode cX8_init 4 = .ok (.aload_n 0, 1) := by decide +kernel
theorem dX8_init_5 : decode cX8_init 5 = .ok (.new 9, 3) := by decide +kernel
theorem dX8_init_8 : decode cX8_init 8 = .ok (.dup, 1) := by decide +kernel
theorem dX8_init_9 : decode cX8_init 9 = .ok (.invokespecial 11, 3) := by decide +kernel
theorem dX8_init_12 : decode cX8_init 12 = .ok (.putfield 12, 3) := by decide +kernel
theorem dX8_init_15 : decode cX8_init 15 = .ok (.aload_n 0, 1) := by decide +kernel
theorem dX8_init_16 : decode cX8_init 16 = .ok (.bipush 40, 2) := by decide +kernel
theorem dX8_init_18 : decode cX8_init 18 = .ok (.newarray .int, 2) := by decide +kernel
theorem dX8_init_20 : decode cX8_init 20 = .ok (.putfield 18, 3) := by decide +kernel
theorem dX8_init_23 : decode cX8_init 23 = .ok (.aload_n 0, 1) := by decide +kernel
theorem dX8_init_24 : decode cX8_init 24 = .ok (.iconst 5, 1) := by decide +kernel
theorem dX8_init_25 : decode cX8_init 25 = .ok (.anewarray 22, 3) := by decide +kernel
theorem dX8_init_28 : decode cX8_init 28 = .ok (.putfield 24, 3) := by decide +kernel
theorem dX8_init_31 : decode cX8_init 31 = .ok (.aload_n 0, 1) := by decide +kernel
theorem dX8_init_32 : decode cX8_init 32 = .ok (.bipush 12, 2) := by decide +kernel
theorem dX8_init_34 : decode cX8_init 34 = .ok (.anewarray 28, 3) := by decide +kernel
theorem dX8_init_37 : decode cX8_init 37 = .ok (.putfield 30, 3) := by decide +kernel
theorem dX8_init_40 : decode cX8_init 40 = .ok (.aload_n 0, 1) := by decide +kernel
theorem dX8_init_41 : decode cX8_init 41 = .ok (.new 22, 3) := by decide +kernel
theorem dX8_init_44 : decode cX8_init 44 = .ok (.dup, 1) := by decide +kernel
theorem dX8_init_45 : decode cX8_init 45 = .ok (.invokespecial 34, 3) := by decide +kernel
theorem dX8_init_48 : decode cX8_init 48 = .ok (.putfield 35, 3) := by decide +kernel
theorem dX8_init_51 : decode cX8_init 51 = .ok (.aload_n 0, 1) := by decide +kernel
theorem dX8_init_52 : decode cX8_init 52 = .ok (.new 28, 3) := by decide +kernel
theorem dX8_init_55 : decode cX8_init 55 = .ok (.dup, 1) := by decide +kernel
theorem dX8_init_56 : decode cX8_init 56 = .ok (.invokespecial 39, 3) := by decide +kernel
theorem dX8_init_59 : decode cX8_init 59 = .ok (.putfield 40, 3) := by decide +kernel
theorem dX8_init_62 : decode cX8_init 62 = .ok (.iconst 0, 1) := by decide +kernel
theorem dX8_init_63 : decode cX8_init 63 = .ok (.istore_n 1, 1) := by decide +kernel
theorem dX8_init_64 : decode cX8_init 64 = .ok (.iload_n 1, 1) := by decide +kernel
theorem dX8_init_65 : decode cX8_init 65 = .ok (.aload_n 0, 1) := by decide +kernel
theorem dX8_init_66 : decode cX8_init 66 = .ok (.getfield 24, 3) := by decide +kernel
theorem dX8_init_69 : decode cX8_init 69 = .ok (.arraylength, 1) := by decide +kernel
theorem dX8_init_70 : decode cX8_init 70 = .ok (.if_icmp .ge 22, 3) := by decide +kernel
theorem dX8_init_73 : decode cX8_init 73 = .ok (.aload_n 0, 1) := by decide +kernel
theorem dX8_init_74 : decode cX8_init 74 = .ok (.getfield 24, 3) := by decide +kernel
theorem dX8_init_77 : decode cX8_init 77 = .ok (.iload_n 1, 1) := by decide +kernel
theorem dX8_init_78 : decode cX8_init 78 = .ok (.new 22, 3) := by decide +kernel
theorem dX8_init_81 : decode cX8_init 81 = .ok (.dup, 1) := by decide +kernel
theorem dX8_init_82 : decode cX8_init 82 = .ok (.invokespecial 34, 3) := by decide +kernel
theorem dX8_init_85 : decode cX8_init 85 = .ok (.aastore, 1) := by decide +kernel
theorem dX8_init_86 : decode cX8_init 86 = .ok (.iinc 1 1, 3) := by decide +kernel
theorem dX8_init_89 : decode cX8_init 89 = .ok (.goto (-25), 3) := by decide +kernel
theorem dX8_init_92 : decode cX8_init 92 = .ok (.iconst 0, 1) := by decide +kernel
theorem dX8_init_93 : decode cX8_init 93 = .ok (.istore_n 1, 1) := by decide +kernel
theorem dX8_init_94 : decode cX8_init 94 = .ok (.iload_n 1, 1) := by decide +kernel
theorem dX8_init_95 : decode cX8_init 95 = .ok (.aload_n 0, 1) := by decide +kernel
theorem dX8_init_96 : decode cX8_init 96 = .ok (.getfield 30, 3) := by decide +kernel
theorem dX8_init_99 : decode cX8_init 99 = .ok (.arraylength, 1) := by decide +kernel
theorem dX8_init_100 : decode cX8_init 100 = .ok (.if_icmp .ge 22, 3) := by decide +kernel
theorem dX8_init_103 : decode cX8_init 103 = .ok (.aload_n 0, 1) := by decide +kernel
theorem dX8_init_104 : decode cX8_init 104 = .ok (.getfield 30, 3) := by decide +kernel
theorem dX8_init_107 : decode cX8_init 107 = .ok (.iload_n 1, 1) := by decide +kernel
theorem dX8_init_108 : decode cX8_init 108 = .ok (.new 28, 3) := by decide +kernel
theorem dX8_init_111 : decode cX8_init 111 = .ok (.dup, 1) := by decide +kernel
theorem dX8_init_112 : decode cX8_init 112 = .ok (.invokespecial 39, 3) := by decide +kernel
theorem dX8_init_115 : decode cX8_init 115 = .ok (.aastore, 1) := by decide +kernel
theorem dX8_init_116 : decode cX8_init 116 = .ok (.iinc 1 1, 3) := by decide +kernel
theorem dX8_init_119 : decode cX8_init 119 = .ok (.goto (-25), 3) := by decide +kernel
theorem dX8_init_122 : decode cX8_init 122 = .ok (.return_, 1) := by decide +kernel
theorem dX8_empty_0 : decode cX8_empty 0 = .ok (.aload_n 0, 1) := by decide +kernel
theorem dX8_empty_1 : decode cX8_empty 1 = .ok (.getfield 12, 3) := by decide +kernel
theorem dX8_empty_4 : decode cX8_empty 4 = .ok (.invokevirtual 44, 3) := by decide +kernel
theorem dX8_empty_7 : decode cX8_empty 7 = .ok (.aload_n 0, 1) := by decide +kernel
theorem dX8_empty_8 : decode cX8_empty 8 = .ok (.getfield 18, 3) := by decide +kernel
theorem dX8_empty_11 : decode cX8_empty 11 = .ok (.iconst 0, 1) := by decide +kernel
theorem dX8_empty_12 : decode cX8_empty 12 = .ok (.invokestatic 47, 3) := by decide +kernel
theorem dX8_empty_15 : decode cX8_empty 15 = .ok (.aload_n 0, 1) := by decide +kernel
theorem dX8_empty_16 : decode cX8_empty 16 = .ok (.iconst 0, 1) := by decide +kernel
theorem dX8_empty_17 : decode cX8_empty 17 = .ok (.putfield 51, 3) := by decide +kernel
theorem dX8_empty_20 : decode cX8_empty 20 = .ok (.aload_n 0, 1) := by decide +kernel
theorem dX8_empty_21 : decode cX8_empty 21 = .ok (.iconst 0, 1) := by decide +kernel
theorem dX8_empty_22 : decode cX8_empty 22 = .ok (.putfield 55, 3) := by decide +kernel
theorem dX8_empty_25 : decode cX8_empty 25 = .ok (.aload_n 0, 1) := by decide +kernel
theorem dX8_empty_26 : decode cX8_empty 26 = .ok (.iconst 0, 1) := by decide +kernel
theorem dX8_empty_27 : decode cX8_empty 27 = .ok (.putfield 58, 3) := by decide +kernel
theorem dX8_empty_30 : decode cX8_empty 30 = .ok (.return_, 1) := by decide +kernel
theorem dX8_copyFrom_0 : decode cX8_copyFrom 0 = .ok (.aload_n 0, 1) := by decide +kernel
theorem dX8_copyFrom_1 : decode cX8_copyFrom 1 = .ok (.getfield 12, 3) := by decide +kernel
theorem dX8_copyFrom_4 : decode cX8_copyFrom 4 = .ok (.aload_n 1, 1) := by decide +kernel
theorem dX8_copyFrom_5 : decode cX8_copyFrom 5 = .ok (.getfield 12, 3) := by decide +kernel
theorem dX8_copyFrom_8 : decode cX8_copyFrom 8 = .ok (.invokevirtual 61, 3) := by decide +kernel
theorem dX8_copyFrom_11 : decode cX8_copyFrom 11 = .ok (.aload_n 1, 1) := by decide +kernel
theorem dX8_copyFrom_12 : decode cX8_copyFrom 12 = .ok (.getfield 18, 3) := by decide +kernel
theorem dX8_copyFrom_15 : decode cX8_copyFrom 15 = .ok (.aload_n 0, 1) := by decide +kernel
theorem dX8_copyFrom_16 : decode cX8_copyFrom 16 = .ok (.getfield 18, 3) := by decide +kernel
theorem dX8_copyFrom_19 : decode cX8_copyFrom 19 = .ok (.invokestatic 65, 3) := by decide +kernel
theorem dX8_copyFrom_22 : decode cX8_copyFrom 22 = .ok (.aload_n 0, 1) := by decide +kernel
theorem dX8_copyFrom_23 : decode cX8_copyFrom 23 = .ok (.aload_n 1, 1) := by decide +kernel
theorem dX8_copyFrom_24 : decode cX8_copyFrom 24 = .ok (.getfield 51, 3) := by decide +kernel
theorem dX8_copyFrom_27 : decode cX8_copyFrom 27 = .ok (.putfield 51, 3) := by decide +kernel
theorem dX8_copyFrom_30 : decode cX8_copyFrom 30 = .ok (.aload_n 0, 1) := by decide +kernel
theorem dX8_copyFrom_31 : decode cX8_copyFrom 31 = .ok (.aload_n 1, 1) := by decide +kernel
theorem dX8_copyFrom_32 : decode cX8_copyFrom 32 = .ok (.getfield 55, 3) := by decide +kernel
theorem dX8_copyFrom_35 : decode cX8_copyFrom 35 = .ok (.putfield 55, 3) := by decide +kernel
theorem dX8_copyFrom_38 : decode cX8_copyFrom 38 = .ok (.aload_n 0, 1) := by decide +kernel
theorem dX8_copyFrom_39 : decode cX8_copyFrom 39 = .ok (.aload_n 1, 1) := by decide +kernel
theorem dX8_copyFrom_40 : decode cX8_copyFrom 40 = .ok (.getfield 58, 3) := by decide +kernel
theorem dX8_copyFrom_43 : decode cX8_copyFrom 43 = .ok (.putfield 58, 3) := by decide +kernel
theorem dX8_copyFrom_46 : decode cX8_copyFrom 46 = .ok (.iconst 0, 1) := by decide +kernel
theorem dX8_copyFrom_47 : decode cX8_copyFrom 47 = .ok (.istore_n 2, 1) := by decide +kernel
theorem dX8_copyFrom_48 : decode cX8_copyFrom 48 = .ok (.iload_n 2, 1) := by decide +kernel
theorem dX8_copyFrom_49 : decode cX8_copyFrom 49 = .ok (.aload_n 0, 1) := by decide +kernel
theorem dX8_copyFrom_50 : decode cX8_copyFrom 50 = .ok (.getfield 51, 3) := by decide +kernel
theorem dX8_copyFrom_53 : decode cX8_copyFrom 53 = .ok (.if_icmp .ge 22, 3) := by decide +kernel
theorem dX8_copyFrom_56 : decode cX8_copyFrom 56 = .ok (.aload_n 0, 1) := by decide +kernel
theorem dX8_copyFrom_57 : decode cX8_copyFrom 57 = .ok (.iload_n 2, 1) := by decide +kernel
theorem dX8_copyFrom_58 : decode cX8_copyFrom 58 = .ok (.invokevirtual 69, 3) := by decide +kernel
theorem dX8_copyFrom_61 : decode cX8_copyFrom 61 = .ok (.aload_n 1, 1) := by decide +kernel
theorem dX8_copyFrom_62 : decode cX8_copyFrom 62 = .ok (.iload_n 2, 1) := by decide +kernel
theorem dX8_copyFrom_63 : decode cX8_copyFrom 63 = .ok (.invokevirtual 69, 3) := by decide +kernel
theorem dX8_copyFrom_66 : decode cX8_copyFrom 66 = .ok (.invokevirtual 73, 3) := by decide +kernel
theorem dX8_copyFrom_69 : decode cX8_copyFrom 69 = .ok (.iinc 2 1, 3) := by decide +kernel
theorem dX8_copyFrom_72 : decode cX8_copyFrom 72 = .ok (.goto (-24), 3) := by decide +kernel
theorem dX8_copyFrom_75 : decode cX8_copyFrom 75 = .ok (.iconst 0, 1) := by decide +kernel
theorem dX8_copyFrom_76 : decode cX8_copyFrom 76 = .ok (.istore_n 2, 1) := by decide +kernel
theorem dX8_copyFrom_77 : decode cX8_copyFrom 77 = .ok (.iload_n 2, 1) := by decide +kernel
theorem dX8_copyFrom_78 : decode cX8_copyFrom 78 = .ok (.aload_n 0, 1) := by decide +kernel
theorem dX8_copyFrom_79 : decode cX8_copyFrom 79 = .ok (.getfield 55, 3) := by decide +kernel
theorem dX8_copyFrom_82 : decode cX8_copyFrom 82 = .ok (.if_icmp .ge 22, 3) := by decide +kernel
theorem dX8_copyFrom_85 : decode cX8_copyFrom 85 = .ok (.aload_n 0, 1) := by decide +kernel
theorem dX8_copyFrom_86 : decode cX8_copyFrom 86 = .ok (.iload_n 2, 1) := by decide +kernel
theorem dX8_copyFrom_87 : decode cX8_copyFrom 87 = .ok (.invokevirtual 76, 3) := by decide +kernel
theorem dX8_copyFrom_90 : decode cX8_copyFrom 90 = .ok (.aload_n 1, 1) := by decide +kernel
theorem dX8_copyFrom_91 : decode cX8_copyFrom 91 = .ok (.iload_n 2, 1) := by decide +kernel
theorem dX8_copyFrom_92 : decode cX8_copyFrom 92 = .ok (.invokevirtual 76, 3) := by decide +kernel
theorem dX8_copyFrom_95 : decode cX8_copyFrom 95 = .ok (.invokevirtual 80, 3) := by decide +kernel
theorem dX8_copyFrom_98 : decode cX8_copyFrom 98 = .ok (.iinc 2 1, 3) := by decide +kernel
theorem dX8_copyFrom_101 : decode cX8_copyFrom 101 = .ok (.goto (-24), 3) := by decide +kernel
theorem dX8_copyFrom_104 : decode cX8_copyFrom 104 = .ok (.return_, 1) := by decide +kernel
theorem dX8_robotOf_0 : decode cX8_robotOf 0 = .ok (.iload_n 1, 1) := by decide +kernel
theorem dX8_robotOf_1 : decode cX8_robotOf 1 = .ok (.ifCond .lt 21, 3) := by decide +kernel
theorem dX8_robotOf_4 : decode cX8_robotOf 4 = .ok (.iload_n 1, 1) := by decide +kernel
theorem dX8_robotOf_5 : decode cX8_robotOf 5 = .ok (.aload_n 0, 1) := by decide +kernel
theorem dX8_robotOf_6 : decode cX8_robotOf 6 = .ok (.getfield 24, 3) := by decide +kernel
theorem dX8_robotOf_9 : decode cX8_robotOf 9 = .ok (.arraylength, 1) := by decide +kernel
theorem dX8_robotOf_10 : decode cX8_robotOf 10 = .ok (.if_icmp .ge 12, 3) := by decide +kernel
theorem dX8_robotOf_13 : decode cX8_robotOf 13 = .ok (.aload_n 0, 1) := by decide +kernel
theorem dX8_robotOf_14 : decode cX8_robotOf 14 = .ok (.getfield 24, 3) := by decide +kernel
theorem dX8_robotOf_17 : decode cX8_robotOf 17 = .ok (.iload_n 1, 1) := by decide +kernel
theorem dX8_robotOf_18 : decode cX8_robotOf 18 = .ok (.aaload, 1) := by decide +kernel
theorem dX8_robotOf_19 : decode cX8_robotOf 19 = .ok (.goto 4, 3) := by decide +kernel
theorem dX8_robotOf_22 : decode cX8_robotOf 22 = .ok (.aconst_null, 1) := by decide +kernel
theorem dX8_robotOf_23 : decode cX8_robotOf 23 = .ok (.astore_n 2, 1) := by decide +kernel
theorem dX8_robotOf_24 : decode cX8_robotOf 24 = .ok (.aload_n 2, 1) := by decide +kernel
theorem dX8_robotOf_25 : decode cX8_robotOf 25 = .ok (.ifnonnull 10, 3) := by decide +kernel
theorem dX8_robotOf_28 : decode cX8_robotOf 28 = .ok (.aload_n 0, 1) := by decide +kernel
theorem dX8_robotOf_29 : decode cX8_robotOf 29 = .ok (.getfield 35, 3) := by decide +kernel
theorem dX8_robotOf_32 : decode cX8_robotOf 32 = .ok (.goto 4, 3) := by decide +kernel
theorem dX8_robotOf_35 : decode cX8_robotOf 35 = .ok (.aload_n 2, 1) := by decide +kernel
theorem dX8_robotOf_36 : decode cX8_robotOf 36 = .ok (.areturn, 1) := by decide +kernel
theorem dX8_taskOf_0 : decode cX8_taskOf 0 = .ok (.iload_n 1, 1) := by decide +kernel
theorem dX8_taskOf_1 : decode cX8_taskOf 1 = .ok (.ifCond .lt 21, 3) := by decide +kernel
theorem dX8_taskOf_4 : decode cX8_taskOf 4 = .ok (.iload_n 1, 1) := by decide +kernel
theorem dX8_taskOf_5 : decode cX8_taskOf 5 = .ok (.aload_n 0, 1) := by decide +kernel
theorem dX8_taskOf_6 : decode cX8_taskOf 6 = .ok (.getfield 30, 3) := by decide +kernel
theorem dX8_taskOf_9 : decode cX8_taskOf 9 = .ok (.arraylength, 1) := by decide +kernel
theorem dX8_taskOf_10 : decode cX8_taskOf 10 = .ok (.if_icmp .ge 12, 3) := by decide +kernel
theorem dX8_taskOf_13 : decode cX8_taskOf 13 = .ok (.aload_n 0, 1) := by decide +kernel
theorem dX8_taskOf_14 : decode cX8_taskOf 14 = .ok (.getfield 30, 3) := by decide +kernel
theorem dX8_taskOf_17 : decode cX8_taskOf 17 = .ok (.iload_n 1, 1) := by decide +kernel
theorem dX8_taskOf_18 : decode cX8_taskOf 18 = .ok (.aaload, 1) := by decide +kernel
theorem dX8_taskOf_19 : decode cX8_taskOf 19 = .ok (.goto 4, 3) := by decide +kernel
theorem dX8_taskOf_22 : decode cX8_taskOf 22 = .ok (.aconst_null, 1) := by decide +kernel
theorem dX8_taskOf_23 : decode cX8_taskOf 23 = .ok (.astore_n 2, 1) := by decide +kernel
theorem dX8_taskOf_24 : decode cX8_taskOf 24 = .ok (.aload_n 2, 1) := by decide +kernel
theorem dX8_taskOf_25 : decode cX8_taskOf 25 = .ok (.ifnonnull 10, 3) := by decide +kernel
theorem dX8_taskOf_28 : decode cX8_taskOf 28 = .ok (.aload_n 0, 1) := by decide +kernel
theorem dX8_taskOf_29 : decode cX8_taskOf 29 = .ok (.getfield 40, 3) := by decide +kernel
theorem dX8_taskOf_32 : decode cX8_taskOf 32 = .ok (.goto 4, 3) := by decide +kernel
theorem dX8_taskOf_35 : decode cX8_taskOf 35 = .ok (.aload_n 2, 1) := by decide +kernel
theorem dX8_taskOf_36 : decode cX8_taskOf 36 = .ok (.areturn, 1) := by decide +kernel
theorem dX8_isIdle_0 : decode cX8_isIdle 0 = .ok (.aload_n 0, 1) := by decide +kernel
theorem dX8_isIdle_1 : decode cX8_isIdle 1 = .ok (.iload_n 1, 1) := by decide +kernel
theorem dX8_isIdle_2 : decode cX8_isIdle 2 = .ok (.invokevirtual 69, 3) := by decide +kernel
theorem dX8_isIdle_5 : decode cX8_isIdle 5 = .ok (.getfield 83, 3) := by decide +kernel
theorem dX8_isIdle_8 : decode cX8_isIdle 8 = .ok (.aload_n 0, 1) := by decide +kernel
theorem dX8_isIdle_9 : decode cX8_isIdle 9 = .ok (.getfield 58, 3) := by decide +kernel
theorem dX8_isIdle_12 : decode cX8_isIdle 12 = .ok (.invokevirtual 87, 3) := by decide +kernel
theorem dX8_isIdle_15 : decode cX8_isIdle 15 = .ok (.ifCond .ne 7, 3) := by decide +kernel
theorem dX8_isIdle_18 : decode cX8_isIdle 18 = .ok (.iconst 1, 1) := by decide +kernel
theorem dX8_isIdle_19 : decode cX8_isIdle 19 = .ok (.goto 4, 3) := by decide +kernel
theorem dX8_isIdle_22 : decode cX8_isIdle 22 = .ok (.iconst 0, 1) := by decide +kernel
theorem dX8_isIdle_23 : decode cX8_isIdle 23 = .ok (.ireturn, 1) := by decide +kernel
theorem dX8_isInLift_0 : decode cX8_isInLift 0 = .ok (.aload_n 0, 1) := by decide +kernel
theorem dX8_isInLift_1 : decode cX8_isInLift 1 = .ok (.iload_n 1, 1) := by decide +kernel
theorem dX8_isInLift_2 : decode cX8_isInLift 2 = .ok (.invokevirtual 69, 3) := by decide +kernel
theorem dX8_isInLift_5 : decode cX8_isInLift 5 = .ok (.getfield 83, 3) := by decide +kernel
theorem dX8_isInLift_8 : decode cX8_isInLift 8 = .ok (.aload_n 0, 1) := by decide +kernel
theorem dX8_isInLift_9 : decode cX8_isInLift 9 = .ok (.getfield 58, 3) := by decide +kernel
theorem dX8_isInLift_12 : decode cX8_isInLift 12 = .ok (.invokevirtual 93, 3) := by decide +kernel
theorem dX8_isInLift_15 : decode cX8_isInLift 15 = .ok (.ifCond .ge 7, 3) := by decide +kernel
theorem dX8_isInLift_18 : decode cX8_isInLift 18 = .ok (.iconst 1, 1) := by decide +kernel
theorem dX8_isInLift_19 : decode cX8_isInLift 19 = .ok (.goto 4, 3) := by decide +kernel
theorem dX8_isInLift_22 : decode cX8_isInLift 22 = .ok (.iconst 0, 1) := by decide +kernel
theorem dX8_isInLift_23 : decode cX8_isInLift 23 = .ok (.ireturn, 1) := by decide +kernel
theorem dX8_occupant_0 : decode cX8_occupant 0 = .ok (.iconst 0, 1) := by decide +kernel
theorem dX8_occupant_1 : decode cX8_occupant 1 = .ok (.istore_n 3, 1) := by decide +kernel
theorem dX8_occupant_2 : decode cX8_occupant 2 = .ok (.iload_n 3, 1) := by decide +kernel
theorem dX8_occupant_3 : decode cX8_occupant 3 = .ok (.aload_n 0, 1) := by decide +kernel
theorem dX8_occupant_4 : decode cX8_occupant 4 = .ok (.getfield 51, 3) := by decide +kernel
theorem dX8_occupant_7 : decode cX8_occupant 7 = .ok (.if_icmp .ge 27, 3) := by decide +kernel
theorem dX8_occupant_10 : decode cX8_occupant 10 = .ok (.aload_n 0, 1) := by decide +kernel
theorem dX8_occupant_11 : decode cX8_occupant 11 = .ok (.iload_n 3, 1) := by decide +kernel
theorem dX8_occupant_12 : decode cX8_occupant 12 = .ok (.invokevirtual 69, 3) := by decide +kernel
theorem dX8_occupant_15 : decode cX8_occupant 15 = .ok (.getfield 83, 3) := by decide +kernel
theorem dX8_occupant_18 : decode cX8_occupant 18 = .ok (.iload_n 2, 1) := by decide +kernel
theorem dX8_occupant_19 : decode cX8_occupant 19 = .ok (.invokevirtual 93, 3) := by decide +kernel
theorem dX8_occupant_22 : decode cX8_occupant 22 = .ok (.iload_n 1, 1) := by decide +kernel
theorem dX8_occupant_23 : decode cX8_occupant 23 = .ok (.if_icmp .ne 5, 3) := by decide +kernel
theorem dX8_occupant_26 : decode cX8_occupant 26 = .ok (.iload_n 3, 1) := by decide +kernel
theorem dX8_occupant_27 : decode cX8_occupant 27 = .ok (.ireturn, 1) := by decide +kernel
theorem dX8_occupant_28 : decode cX8_occupant 28 = .ok (.iinc 3 1, 3) := by decide +kernel
theorem dX8_occupant_31 : decode cX8_occupant 31 = .ok (.goto (-29), 3) := by decide +kernel
theorem dX8_occupant_34 : decode cX8_occupant 34 = .ok (.iconst (-1), 1) := by decide +kernel
theorem dX8_occupant_35 : decode cX8_occupant 35 = .ok (.ireturn, 1) := by decide +kernel
theorem dX8_isMet_0 : decode cX8_isMet 0 = .ok (.iconst 0, 1) := by decide +kernel
theorem dX8_isMet_1 : decode cX8_isMet 1 = .ok (.istore_n 3, 1) := by decide +kernel
theorem dX8_isMet_2 : decode cX8_isMet 2 = .ok (.iload_n 3, 1) := by decide +kernel
theorem dX8_isMet_3 : decode cX8_isMet 3 = .ok (.aload_n 0, 1) := by decide +kernel
theorem dX8_isMet_4 : decode cX8_isMet 4 = .ok (.getfield 51, 3) := by decide +kernel
theorem dX8_isMet_7 : decode cX8_isMet 7 = .ok (.if_icmp .ge 58, 3) := by decide +kernel
theorem dX8_isMet_10 : decode cX8_isMet 10 = .ok (.aload_n 0, 1) := by decide +kernel
theorem dX8_isMet_11 : decode cX8_isMet 11 = .ok (.iload_n 3, 1) := by decide +kernel
theorem dX8_isMet_12 : decode cX8_isMet 12 = .ok (.invokevirtual 69, 3) := by decide +kernel
theorem dX8_isMet_15 : decode cX8_isMet 15 = .ok (.getfield 83, 3) := by decide +kernel
theorem dX8_isMet_18 : decode cX8_isMet 18 = .ok (.astore 4, 2) := by decide +kernel
theorem dX8_isMet_20 : decode cX8_isMet 20 = .ok (.iconst 0, 1) := by decide +kernel
theorem dX8_isMet_21 : decode cX8_isMet 21 = .ok (.istore 5, 2) := by decide +kernel
theorem dX8_isMet_23 : decode cX8_isMet 23 = .ok (.iload_n 3, 1) := by decide +kernel
theorem dX8_isMet_24 : decode cX8_isMet 24 = .ok (.iload_n 2, 1) := by decide +kernel
theorem dX8_isMet_25 : decode cX8_isMet 25 = .ok (.if_icmp .eq 34, 3) := by decide +kernel
theorem dX8_isMet_28 : decode cX8_isMet 28 = .ok (.iload 5, 2) := by decide +kernel
theorem dX8_isMet_30 : decode cX8_isMet 30 = .ok (.bipush 30, 2) := by decide +kernel
theorem dX8_isMet_32 : decode cX8_isMet 32 = .ok (.if_icmp .gt 27, 3) := by decide +kernel
theorem dX8_isMet_35 : decode cX8_isMet 35 = .ok (.aload 4, 2) := by decide +kernel
theorem dX8_isMet_37 : decode cX8_isMet 37 = .ok (.aload_n 0, 1) := by decide +kernel
theorem dX8_isMet_38 : decode cX8_isMet 38 = .ok (.getfield 58, 3) := by decide +kernel
theorem dX8_isMet_41 : decode cX8_isMet 41 = .ok (.iload 5, 2) := by decide +kernel
theorem dX8_isMet_43 : decode cX8_isMet 43 = .ok (.iadd, 1) := by decide +kernel
theorem dX8_isMet_44 : decode cX8_isMet 44 = .ok (.invokevirtual 93, 3) := by decide +kernel
theorem dX8_isMet_47 : decode cX8_isMet 47 = .ok (.iload_n 1, 1) := by decide +kernel
theorem dX8_isMet_48 : decode cX8_isMet 48 = .ok (.if_icmp .ne 5, 3) := by decide +kernel
theorem dX8_isMet_51 : decode cX8_isMet 51 = .ok (.iconst 1, 1) := by decide +kernel
theorem dX8_isMet_52 : decode cX8_isMet 52 = .ok (.ireturn, 1) := by decide +kernel
theorem dX8_isMet_53 : decode cX8_isMet 53 = .ok (.iinc 5 1, 3) := by decide +kernel
theorem dX8_isMet_56 : decode cX8_isMet 56 = .ok (.goto (-33), 3) := by decide +kernel
theorem dX8_isMet_59 : decode cX8_isMet 59 = .ok (.iinc 3 1, 3) := by decide +kernel
theorem dX8_isMet_62 : decode cX8_isMet 62 = .ok (.goto (-60), 3) := by decide +kernel
theorem dX8_isMet_65 : decode cX8_isMet 65 = .ok (.iconst 0, 1) := by decide +kernel
theorem dX8_isMet_66 : decode cX8_isMet 66 = .ok (.ireturn, 1) := by decide +kernel
theorem dX8_makeKind_0 : decode cX8_makeKind 0 = .ok (.iload_n 1, 1) := by decide +kernel
theorem dX8_makeKind_1 : decode cX8_makeKind 1 = .ok (.invokestatic 96, 3) := by decide +kernel
theorem dX8_makeKind_4 : decode cX8_makeKind 4 = .ok (.ifCond .ne 5, 3) := by decide +kernel
theorem dX8_makeKind_7 : decode cX8_makeKind 7 = .ok (.iconst 1, 1) := by decide +kernel
theorem dX8_makeKind_8 : decode cX8_makeKind 8 = .ok (.ireturn, 1) := by decide +kernel
theorem dX8_makeKind_9 : decode cX8_makeKind 9 = .ok (.iload_n 2, 1) := by decide +kernel
theorem dX8_makeKind_10 : decode cX8_makeKind 10 = .ok (.ifCond .lt 8, 3) := by decide +kernel
theorem dX8_makeKind_13 : decode cX8_makeKind 13 = .ok (.iload_n 2, 1) := by decide +kernel
theorem dX8_makeKind_14 : decode cX8_makeKind 14 = .ok (.iconst 2, 1) := by decide +kernel
theorem dX8_makeKind_15 : decode cX8_makeKind 15 = .ok (.if_icmp .le 5, 3) := by decide +kernel
theorem dX8_makeKind_18 : decode cX8_makeKind 18 = .ok (.iconst 2, 1) := by decide +kernel
theorem dX8_makeKind_19 : decode cX8_makeKind 19 = .ok (.ireturn, 1) := by decide +kernel
theorem dX8_makeKind_20 : decode cX8_makeKind 20 = .ok (.iload_n 2, 1) := by decide +kernel
theorem dX8_makeKind_21 : decode cX8_makeKind 21 = .ok (.iconst 1, 1) := by decide +kernel
theorem dX8_makeKind_22 : decode cX8_makeKind 22 = .ok (.if_icmp .ne 25, 3) := by decide +kernel
theorem dX8_makeKind_25 : decode cX8_makeKind 25 = .ok (.aload_n 0, 1) := by decide +kernel
theorem dX8_makeKind_26 : decode cX8_makeKind 26 = .ok (.getfield 12, 3) := by decide +kernel
theorem dX8_makeKind_29 : decode cX8_makeKind 29 = .ok (.iload_n 1, 1) := by decide +kernel
theorem dX8_makeKind_30 : decode cX8_makeKind 30 = .ok (.invokevirtual 100, 3) := by decide +kernel
theorem dX8_makeKind_33 : decode cX8_makeKind 33 = .ok (.ifCond .ne 12, 3) := by decide +kernel
theorem dX8_makeKind_36 : decode cX8_makeKind 36 = .ok (.aload_n 0, 1) := by decide +kernel
theorem dX8_makeKind_37 : decode cX8_makeKind 37 = .ok (.iload_n 1, 1) := by decide +kernel
theorem dX8_makeKind_38 : decode cX8_makeKind 38 = .ok (.iconst (-1), 1) := by decide +kernel
theorem dX8_makeKind_39 : decode cX8_makeKind 39 = .ok (.invokevirtual 103, 3) := by decide +kernel
theorem dX8_makeKind_42 : decode cX8_makeKind 42 = .ok (.ifCond .eq 5, 3) := by decide +kernel
theorem dX8_makeKind_45 : decode cX8_makeKind 45 = .ok (.iconst 3, 1) := by decide +kernel
theorem dX8_makeKind_46 : decode cX8_makeKind 46 = .ok (.ireturn, 1) := by decide +kernel
theorem dX8_makeKind_47 : decode cX8_makeKind 47 = .ok (.aload_n 0, 1) := by decide +kernel
theorem dX8_makeKind_48 : decode cX8_makeKind 48 = .ok (.getfield 12, 3) := by decide +kernel
theorem dX8_makeKind_51 : decode cX8_makeKind 51 = .ok (.getfield 107, 3) := by decide +kernel
theorem dX8_makeKind_54 : decode cX8_makeKind 54 = .ok (.iload_n 1, 1) := by decide +kernel
theorem dX8_makeKind_55 : decode cX8_makeKind 55 = .ok (.iload_n 2, 1) := by decide +kernel
theorem dX8_makeKind_56 : decode cX8_makeKind 56 = .ok (.invokestatic 110, 3) := by decide +kernel
theorem dX8_makeKind_59 : decode cX8_makeKind 59 = .ok (.iconst 0, 1) := by decide +kernel
theorem dX8_makeKind_60 : decode cX8_makeKind 60 = .ok (.ireturn, 1) := by decide +kernel
theorem dX8_makeLift_0 : decode cX8_makeLift 0 = .ok (.iload_n 1, 1) := by decide +kernel
theorem dX8_makeLift_1 : decode cX8_makeLift 1 = .ok (.invokestatic 96, 3) := by decide +kernel
theorem dX8_makeLift_4 : decode cX8_makeLift 4 = .ok (.ifCond .eq 10, 3) := by decide +kernel
theorem dX8_makeLift_7 : decode cX8_makeLift 7 = .ok (.iload_n 2, 1) := by decide +kernel
theorem dX8_makeLift_8 : decode cX8_makeLift 8 = .ok (.invokestatic 96, 3) := by decide +kernel
theorem dX8_makeLift_11 : decode cX8_makeLift 11 = .ok (.ifCond .ne 5, 3) := by decide +kernel
theorem dX8_makeLift_14 : decode cX8_makeLift 14 = .ok (.iconst 1, 1) := by decide +kernel
theorem dX8_makeLift_15 : decode cX8_makeLift 15 = .ok (.ireturn, 1) := by decide +kernel
theorem dX8_makeLift_16 : decode cX8_makeLift 16 = .ok (.iload_n 1, 1) := by decide +kernel
theorem dX8_makeLift_17 : decode cX8_makeLift 17 = .ok (.iload_n 2, 1) := by decide +kernel
theorem dX8_makeLift_18 : decode cX8_makeLift 18 = .ok (.if_icmp .eq 47, 3) := by decide +kernel
theorem dX8_makeLift_21 : decode cX8_makeLift 21 = .ok (.aload_n 0, 1) := by decide +kernel
theorem dX8_makeLift_22 : decode cX8_makeLift 22 = .ok (.getfield 12, 3) := by decide +kernel
theorem dX8_makeLift_25 : decode cX8_makeLift 25 = .ok (.iload_n 1, 1) := by decide +kernel
theorem dX8_makeLift_26 : decode cX8_makeLift 26 = .ok (.invokevirtual 114, 3) := by decide +kernel
theorem dX8_makeLift_29 : decode cX8_makeLift 29 = .ok (.ifCond .ne 36, 3) := by decide +kernel
theorem dX8_makeLift_32 : decode cX8_makeLift 32 = .ok (.aload_n 0, 1) := by decide +kernel
theorem dX8_makeLift_33 : decode cX8_makeLift 33 = .ok (.getfield 12, 3) := by decide +kernel
theorem dX8_makeLift_36 : decode cX8_makeLift 36 = .ok (.iload_n 2, 1) := by decide +kernel
theorem dX8_makeLift_37 : decode cX8_makeLift 37 = .ok (.invokevirtual 114, 3) := by decide +kernel
theorem dX8_makeLift_40 : decode cX8_makeLift 40 = .ok (.ifCond .ne 25, 3) := by decide +kernel
theorem dX8_makeLift_43 : decode cX8_makeLift 43 = .ok (.aload_n 0, 1) := by decide +kernel
theorem dX8_makeLift_44 : decode cX8_makeLift 44 = .ok (.getfield 12, 3) := by decide +kernel
theorem dX8_makeLift_47 : decode cX8_makeLift 47 = .ok (.iload_n 1, 1) := by decide +kernel
theorem dX8_makeLift_48 : decode cX8_makeLift 48 = .ok (.invokevirtual 100, 3) := by decide +kernel
theorem dX8_makeLift_51 : decode cX8_makeLift 51 = .ok (.ifCond .ne 14, 3) := by decide +kernel
theorem dX8_makeLift_54 : decode cX8_makeLift 54 = .ok (.aload_n 0, 1) := by decide +kernel
theorem dX8_makeLift_55 : decode cX8_makeLift 55 = .ok (.getfield 12, 3) := by decide +kernel
theorem dX8_makeLift_58 : decode cX8_makeLift 58 = .ok (.iload_n 2, 1) := by decide +kernel
theorem dX8_makeLift_59 : decode cX8_makeLift 59 = .ok (.invokevirtual 100, 3) := by decide +kernel
theorem dX8_makeLift_62 : decode cX8_makeLift 62 = .ok (.ifCond .eq 5, 3) := by decide +kernel
theorem dX8_makeLift_65 : decode cX8_makeLift 65 = .ok (.iconst 2, 1) := by decide +kernel
theorem dX8_makeLift_66 : decode cX8_makeLift 66 = .ok (.ireturn, 1) := by decide +kernel
theorem dX8_makeLift_67 : decode cX8_makeLift 67 = .ok (.aload_n 0, 1) := by decide +kernel
theorem dX8_makeLift_68 : decode cX8_makeLift 68 = .ok (.getfield 12, 3) := by decide +kernel
theorem dX8_makeLift_71 : decode cX8_makeLift 71 = .ok (.getfield 117, 3) := by decide +kernel
theorem dX8_makeLift_74 : decode cX8_makeLift 74 = .ok (.iconst 2, 1) := by decide +kernel
theorem dX8_makeLift_75 : decode cX8_makeLift 75 = .ok (.if_icmp .lt 5, 3) := by decide +kernel
theorem dX8_makeLift_78 : decode cX8_makeLift 78 = .ok (.iconst 3, 1) := by decide +kernel
theorem dX8_makeLift_79 : decode cX8_makeLift 79 = .ok (.ireturn, 1) := by decide +kernel
theorem dX8_makeLift_80 : decode cX8_makeLift 80 = .ok (.aload_n 0, 1) := by decide +kernel
theorem dX8_makeLift_81 : decode cX8_makeLift 81 = .ok (.getfield 12, 3) := by decide +kernel
theorem dX8_makeLift_84 : decode cX8_makeLift 84 = .ok (.iload_n 1, 1) := by decide +kernel
theorem dX8_makeLift_85 : decode cX8_makeLift 85 = .ok (.iload_n 2, 1) := by decide +kernel
theorem dX8_makeLift_86 : decode cX8_makeLift 86 = .ok (.invokevirtual 120, 3) := by decide +kernel
theorem dX8_makeLift_89 : decode cX8_makeLift 89 = .ok (.iconst 0, 1) := by decide +kernel
theorem dX8_makeLift_90 : decode cX8_makeLift 90 = .ok (.ireturn, 1) := by decide +kernel
theorem dX8_makeRobot_0 : decode cX8_makeRobot 0 = .ok (.iload_n 1, 1) := by decide +kernel
theorem dX8_makeRobot_1 : decode cX8_makeRobot 1 = .ok (.invokestatic 96, 3) := by decide +kernel
theorem dX8_makeRobot_4 : decode cX8_makeRobot 4 = .ok (.ifCond .ne 5, 3) := by decide +kernel
theorem dX8_makeRobot_7 : decode cX8_makeRobot 7 = .ok (.iconst 1, 1) := by decide +kernel
theorem dX8_makeRobot_8 : decode cX8_makeRobot 8 = .ok (.ireturn, 1) := by decide +kernel
theorem dX8_makeRobot_9 : decode cX8_makeRobot 9 = .ok (.iload_n 2, 1) := by decide +kernel
theorem dX8_makeRobot_10 : decode cX8_makeRobot 10 = .ok (.ifCond .lt 20, 3) := by decide +kernel
theorem dX8_makeRobot_13 : decode cX8_makeRobot 13 = .ok (.iload_n 2, 1) := by decide +kernel
theorem dX8_makeRobot_14 : decode cX8_makeRobot 14 = .ok (.bipush 100, 2) := by decide +kernel
theorem dX8_makeRobot_16 : decode cX8_makeRobot 16 = .ok (.if_icmp .gt 14, 3) := by decide +kernel
theorem dX8_makeRobot_19 : decode cX8_makeRobot 19 = .ok (.aload_n 0, 1) := by decide +kernel
theorem dX8_makeRobot_20 : decode cX8_makeRobot 20 = .ok (.getfield 12, 3) := by decide +kernel
theorem dX8_makeRobot_23 : decode cX8_makeRobot 23 = .ok (.iload_n 1, 1) := by decide +kernel
theorem dX8_makeRobot_24 : decode cX8_makeRobot 24 = .ok (.invokevirtual 114, 3) := by decide +kernel
theorem dX8_makeRobot_27 : decode cX8_makeRobot 27 = .ok (.ifCond .eq 5, 3) := by decide +kernel
theorem dX8_makeRobot_30 : decode cX8_makeRobot 30 = .ok (.iconst 2, 1) := by decide +kernel
theorem dX8_makeRobot_31 : decode cX8_makeRobot 31 = .ok (.ireturn, 1) := by decide +kernel
theorem dX8_makeRobot_32 : decode cX8_makeRobot 32 = .ok (.aload_n 0, 1) := by decide +kernel
theorem dX8_makeRobot_33 : decode cX8_makeRobot 33 = .ok (.getfield 51, 3) := by decide +kernel
theorem dX8_makeRobot_36 : decode cX8_makeRobot 36 = .ok (.iconst 5, 1) := by decide +kernel
theorem dX8_makeRobot_37 : decode cX8_makeRobot 37 = .ok (.if_icmp .ge 12, 3) := by decide +kernel
theorem dX8_makeRobot_40 : decode cX8_makeRobot 40 = .ok (.aload_n 0, 1) := by decide +kernel
theorem dX8_makeRobot_41 : decode cX8_makeRobot 41 = .ok (.iload_n 1, 1) := by decide +kernel
theorem dX8_makeRobot_42 : decode cX8_makeRobot 42 = .ok (.iconst (-1), 1) := by decide +kernel
theorem dX8_makeRobot_43 : decode cX8_makeRobot 43 = .ok (.invokevirtual 103, 3) := by decide +kernel
theorem dX8_makeRobot_46 : decode cX8_makeRobot 46 = .ok (.ifCond .eq 5, 3) := by decide +kernel
theorem dX8_makeRobot_49 : decode cX8_makeRobot 49 = .ok (.iconst 3, 1) := by decide +kernel
theorem dX8_makeRobot_50 : decode cX8_makeRobot 50 = .ok (.ireturn, 1) := by decide +kernel
theorem dX8_makeRobot_51 : decode cX8_makeRobot 51 = .ok (.aload_n 0, 1) := by decide +kernel
theorem dX8_makeRobot_52 : decode cX8_makeRobot 52 = .ok (.aload_n 0, 1) := by decide +kernel
theorem dX8_makeRobot_53 : decode cX8_makeRobot 53 = .ok (.getfield 51, 3) := by decide +kernel
theorem dX8_makeRobot_56 : decode cX8_makeRobot 56 = .ok (.invokevirtual 69, 3) := by decide +kernel
theorem dX8_makeRobot_59 : decode cX8_makeRobot 59 = .ok (.iload_n 1, 1) := by decide +kernel
theorem dX8_makeRobot_60 : decode cX8_makeRobot 60 = .ok (.iload_n 2, 1) := by decide +kernel
theorem dX8_makeRobot_61 : decode cX8_makeRobot 61 = .ok (.aload_n 0, 1) := by decide +kernel
theorem dX8_makeRobot_62 : decode cX8_makeRobot 62 = .ok (.getfield 58, 3) := by decide +kernel
theorem dX8_makeRobot_65 : decode cX8_makeRobot 65 = .ok (.invokevirtual 124, 3) := by decide +kernel
theorem dX8_makeRobot_68 : decode cX8_makeRobot 68 = .ok (.aload_n 0, 1) := by decide +kernel
theorem dX8_makeRobot_69 : decode cX8_makeRobot 69 = .ok (.dup, 1) := by decide +kernel
theorem dX8_makeRobot_70 : decode cX8_makeRobot 70 = .ok (.getfield 51, 3) := by decide +kernel
theorem dX8_makeRobot_73 : decode cX8_makeRobot 73 = .ok (.iconst 1, 1) := by decide +kernel
theorem dX8_makeRobot_74 : decode cX8_makeRobot 74 = .ok (.iadd, 1) := by decide +kernel
theorem dX8_makeRobot_75 : decode cX8_makeRobot 75 = .ok (.putfield 51, 3) := by decide +kernel
theorem dX8_makeRobot_78 : decode cX8_makeRobot 78 = .ok (.iconst 0, 1) := by decide +kernel
theorem dX8_makeRobot_79 : decode cX8_makeRobot 79 = .ok (.ireturn, 1) := by decide +kernel
theorem dX8_follow_0 : decode cX8_follow 0 = .ok (.iload_n 1, 1) := by decide +kernel
theorem dX8_follow_1 : decode cX8_follow 1 = .ok (.lookupswitch 71 #[(99, 50), (102, 57), (108, 64), (119, 43)], 43) := by decide +kernel
theorem dX8_follow_44 : decode cX8_follow 44 = .ok (.aload_n 0, 1) := by decide +kernel
theorem dX8_follow_45 : decode cX8_follow 45 = .ok (.iload_n 2, 1) := by decide +kernel
theorem dX8_follow_46 : decode cX8_follow 46 = .ok (.iconst 1, 1) := by decide +kernel
theorem dX8_follow_47 : decode cX8_follow 47 = .ok (.invokevirtual 128, 3) := by decide +kernel
theorem dX8_follow_50 : decode cX8_follow 50 = .ok (.ireturn, 1) := by decide +kernel
theorem dX8_follow_51 : decode cX8_follow 51 = .ok (.aload_n 0, 1) := by decide +kernel
theorem dX8_follow_52 : decode cX8_follow 52 = .ok (.iload_n 2, 1) := by decide +kernel
theorem dX8_follow_53 : decode cX8_follow 53 = .ok (.iconst 2, 1) := by decide +kernel
theorem dX8_follow_54 : decode cX8_follow 54 = .ok (.invokevirtual 128, 3) := by decide +kernel
theorem dX8_follow_57 : decode cX8_follow 57 = .ok (.ireturn, 1) := by decide +kernel
theorem dX8_follow_58 : decode cX8_follow 58 = .ok (.aload_n 0, 1) := by decide +kernel
theorem dX8_follow_59 : decode cX8_follow 59 = .ok (.iload_n 2, 1) := by decide +kernel
theorem dX8_follow_60 : decode cX8_follow 60 = .ok (.iconst 0, 1) := by decide +kernel
theorem dX8_follow_61 : decode cX8_follow 61 = .ok (.invokevirtual 128, 3) := by decide +kernel
theorem dX8_follow_64 : decode cX8_follow 64 = .ok (.ireturn, 1) := by decide +kernel
theorem dX8_follow_65 : decode cX8_follow 65 = .ok (.aload_n 0, 1) := by decide +kernel
theorem dX8_follow_66 : decode cX8_follow 66 = .ok (.iload_n 2, 1) := by decide +kernel
theorem dX8_follow_67 : decode cX8_follow 67 = .ok (.iload_n 3, 1) := by decide +kernel
theorem dX8_follow_68 : decode cX8_follow 68 = .ok (.invokevirtual 132, 3) := by decide +kernel
theorem dX8_follow_71 : decode cX8_follow 71 = .ok (.ireturn, 1) := by decide +kernel
theorem dX8_follow_72 : decode cX8_follow 72 = .ok (.aload_n 0, 1) := by decide +kernel
theorem dX8_follow_73 : decode cX8_follow 73 = .ok (.iload_n 2, 1) := by decide +kernel
theorem dX8_follow_74 : decode cX8_follow 74 = .ok (.bipush 100, 2) := by decide +kernel
theorem dX8_follow_76 : decode cX8_follow 76 = .ok (.invokevirtual 135, 3) := by decide +kernel
theorem dX8_follow_79 : decode cX8_follow 79 = .ok (.ireturn, 1) := by decide +kernel
theorem dX8_reopenTaskOf_0 : decode cX8_reopenTaskOf 0 = .ok (.aload_n 1, 1) := by decide +kernel
theorem dX8_reopenTaskOf_1 : decode cX8_reopenTaskOf 1 = .ok (.getfield 138, 3) := by decide +kernel
theorem dX8_reopenTaskOf_4 : decode cX8_reopenTaskOf 4 = .ok (.ifCond .lt 22, 3) := by decide +kernel
theorem dX8_reopenTaskOf_7 : decode cX8_reopenTaskOf 7 = .ok (.aload_n 0, 1) := by decide +kernel
theorem dX8_reopenTaskOf_8 : decode cX8_reopenTaskOf 8 = .ok (.aload_n 1, 1) := by decide +kernel
theorem dX8_reopenTaskOf_9 : decode cX8_reopenTaskOf 9 = .ok (.getfield 138, 3) := by decide +kernel
theorem dX8_reopenTaskOf_12 : decode cX8_reopenTaskOf 12 = .ok (.invokevirtual 76, 3) := by decide +kernel
theorem dX8_reopenTaskOf_15 : decode cX8_reopenTaskOf 15 = .ok (.iconst 0, 1) := by decide +kernel
theorem dX8_reopenTaskOf_16 : decode cX8_reopenTaskOf 16 = .ok (.iconst 0, 1) := by decide +kernel
theorem dX8_reopenTaskOf_17 : decode cX8_reopenTaskOf 17 = .ok (.iconst (-1), 1) := by decide +kernel
theorem dX8_reopenTaskOf_18 : decode cX8_reopenTaskOf 18 = .ok (.invokevirtual 141, 3) := by decide +kernel
theorem dX8_reopenTaskOf_21 : decode cX8_reopenTaskOf 21 = .ok (.aload_n 1, 1) := by decide +kernel
theorem dX8_reopenTaskOf_22 : decode cX8_reopenTaskOf 22 = .ok (.iconst (-1), 1) := by decide +kernel
theorem dX8_reopenTaskOf_23 : decode cX8_reopenTaskOf 23 = .ok (.putfield 138, 3) := by decide +kernel
theorem dX8_reopenTaskOf_26 : decode cX8_reopenTaskOf 26 = .ok (.return_, 1) := by decide +kernel
theorem dX8_passTick_0 : decode cX8_passTick 0 = .ok (.iconst 0, 1) := by decide +kernel
theorem dX8_passTick_1 : decode cX8_passTick 1 = .ok (.istore_n 1, 1) := by decide +kernel
theorem dX8_passTick_2 : decode cX8_passTick 2 = .ok (.iload_n 1, 1) := by decide +kernel
theorem dX8_passTick_3 : decode cX8_passTick 3 = .ok (.aload_n 0, 1) := by decide +kernel
theorem dX8_passTick_4 : decode cX8_passTick 4 = .ok (.getfield 51, 3) := by decide +kernel
theorem dX8_passTick_7 : decode cX8_passTick 7 = .ok (.if_icmp .ge 18, 3) := by decide +kernel
theorem dX8_passTick_10 : decode cX8_passTick 10 = .ok (.aload_n 0, 1) := by decide +kernel
theorem dX8_passTick_11 : decode cX8_passTick 11 = .ok (.aload_n 0, 1) := by decide +kernel
theorem dX8_passTick_12 : decode cX8_passTick 12 = .ok (.iload_n 1, 1) := by decide +kernel
theorem dX8_passTick_13 : decode cX8_passTick 13 = .ok (.invokevirtual 69, 3) := by decide +kernel
theorem dX8_passTick_16 : decode cX8_passTick 16 = .ok (.invokevirtual 144, 3) := by decide +kernel
theorem dX8_passTick_19 : decode cX8_passTick 19 = .ok (.iinc 1 1, 3) := by decide +kernel
theorem dX8_passTick_22 : decode cX8_passTick 22 = .ok (.goto (-20), 3) := by decide +kernel
theorem dX8_passTick_25 : decode cX8_passTick 25 = .ok (.aload_n 0, 1) := by decide +kernel
theorem dX8_passTick_26 : decode cX8_passTick 26 = .ok (.dup, 1) := by decide +kernel
theorem dX8_passTick_27 : decode cX8_passTick 27 = .ok (.getfield 58, 3) := by decide +kernel
theorem dX8_passTick_30 : decode cX8_passTick 30 = .ok (.iconst 1, 1) := by decide +kernel
theorem dX8_passTick_31 : decode cX8_passTick 31 = .ok (.iadd, 1) := by decide +kernel
theorem dX8_passTick_32 : decode cX8_passTick 32 = .ok (.putfield 58, 3) := by decide +kernel
theorem dX8_passTick_35 : decode cX8_passTick 35 = .ok (.iconst 0, 1) := by decide +kernel
theorem dX8_passTick_36 : decode cX8_passTick 36 = .ok (.istore_n 1, 1) := by decide +kernel
theorem dX8_passTick_37 : decode cX8_passTick 37 = .ok (.iconst 0, 1) := by decide +kernel
theorem dX8_passTick_38 : decode cX8_passTick 38 = .ok (.istore_n 2, 1) := by decide +kernel
theorem dX8_passTick_39 : decode cX8_passTick 39 = .ok (.iload_n 2, 1) := by decide +kernel
theorem dX8_passTick_40 : decode cX8_passTick 40 = .ok (.aload_n 0, 1) := by decide +kernel
theorem dX8_passTick_41 : decode cX8_passTick 41 = .ok (.getfield 51, 3) := by decide +kernel
theorem dX8_passTick_44 : decode cX8_passTick 44 = .ok (.if_icmp .ge 77, 3) := by decide +kernel
theorem dX8_passTick_47 : decode cX8_passTick 47 = .ok (.aload_n 0, 1) := by decide +kernel
theorem dX8_passTick_48 : decode cX8_passTick 48 = .ok (.iload_n 2, 1) := by decide +kernel
theorem dX8_passTick_49 : decode cX8_passTick 49 = .ok (.invokevirtual 69, 3) := by decide +kernel
theorem dX8_passTick_52 : decode cX8_passTick 52 = .ok (.astore_n 3, 1) := by decide +kernel
theorem dX8_passTick_53 : decode cX8_passTick 53 = .ok (.aload_n 3, 1) := by decide +kernel
theorem dX8_passTick_54 : decode cX8_passTick 54 = .ok (.getfield 83, 3) := by decide +kernel
theorem dX8_passTick_57 : decode cX8_passTick 57 = .ok (.aload_n 0, 1) := by decide +kernel
theorem dX8_passTick_58 : decode cX8_passTick 58 = .ok (.getfield 58, 3) := by decide +kernel
theorem dX8_passTick_61 : decode cX8_passTick 61 = .ok (.invokevirtual 93, 3) := by decide +kernel
theorem dX8_passTick_64 : decode cX8_passTick 64 = .ok (.istore 4, 2) := by decide +kernel
theorem dX8_passTick_66 : decode cX8_passTick 66 = .ok (.iload 4, 2) := by decide +kernel
theorem dX8_passTick_68 : decode cX8_passTick 68 = .ok (.ifCond .lt 23, 3) := by decide +kernel
theorem dX8_passTick_71 : decode cX8_passTick 71 = .ok (.aload_n 0, 1) := by decide +kernel
theorem dX8_passTick_72 : decode cX8_passTick 72 = .ok (.getfield 18, 3) := by decide +kernel
theorem dX8_passTick_75 : decode cX8_passTick 75 = .ok (.iload 4, 2) := by decide +kernel
theorem dX8_passTick_77 : decode cX8_passTick 77 = .ok (.aload_n 0, 1) := by decide +kernel
theorem dX8_passTick_78 : decode cX8_passTick 78 = .ok (.getfield 18, 3) := by decide +kernel
theorem dX8_passTick_81 : decode cX8_passTick 81 = .ok (.iload 4, 2) := by decide +kernel
theorem dX8_passTick_83 : decode cX8_passTick 83 = .ok (.invokestatic 147, 3) := by decide +kernel
theorem dX8_passTick_86 : decode cX8_passTick 86 = .ok (.iconst 1, 1) := by decide +kernel
theorem dX8_passTick_87 : decode cX8_passTick 87 = .ok (.iadd, 1) := by decide +kernel
theorem dX8_passTick_88 : decode cX8_passTick 88 = .ok (.invokestatic 110, 3) := by decide +kernel
theorem dX8_passTick_91 : decode cX8_passTick 91 = .ok (.aload_n 3, 1) := by decide +kernel
theorem dX8_passTick_92 : decode cX8_passTick 92 = .ok (.getfield 138, 3) := by decide +kernel
theorem dX8_passTick_95 : decode cX8_passTick 95 = .ok (.ifCond .lt 20, 3) := by decide +kernel
theorem dX8_passTick_98 : decode cX8_passTick 98 = .ok (.aload_n 0, 1) := by decide +kernel
theorem dX8_passTick_99 : decode cX8_passTick 99 = .ok (.iload_n 2, 1) := by decide +kernel
theorem dX8_passTick_100 : decode cX8_passTick 100 = .ok (.invokevirtual 151, 3) := by decide +kernel
theorem dX8_passTick_103 : decode cX8_passTick 103 = .ok (.ifCond .eq 12, 3) := by decide +kernel
theorem dX8_passTick_106 : decode cX8_passTick 106 = .ok (.aload_n 0, 1) := by decide +kernel
theorem dX8_passTick_107 : decode cX8_passTick 107 = .ok (.aload_n 3, 1) := by decide +kernel
theorem dX8_passTick_108 : decode cX8_passTick 108 = .ok (.iload_n 2, 1) := by decide +kernel
theorem dX8_passTick_109 : decode cX8_passTick 109 = .ok (.invokevirtual 154, 3) := by decide +kernel
theorem dX8_passTick_112 : decode cX8_passTick 112 = .ok (.iinc 1 1, 3) := by decide +kernel
theorem dX8_passTick_115 : decode cX8_passTick 115 = .ok (.iinc 2 1, 3) := by decide +kernel
theorem dX8_passTick_118 : decode cX8_passTick 118 = .ok (.goto (-79), 3) := by decide +kernel
theorem dX8_passTick_121 : decode cX8_passTick 121 = .ok (.iload_n 1, 1) := by decide +kernel
theorem dX8_passTick_122 : decode cX8_passTick 122 = .ok (.ireturn, 1) := by decide +kernel
theorem dX8_act_0 : decode cX8_act 0 = .ok (.aload_n 1, 1) := by decide +kernel
theorem dX8_act_1 : decode cX8_act 1 = .ok (.getfield 83, 3) := by decide +kernel
theorem dX8_act_4 : decode cX8_act 4 = .ok (.aload_n 0, 1) := by decide +kernel
theorem dX8_act_5 : decode cX8_act 5 = .ok (.getfield 58, 3) := by decide +kernel
theorem dX8_act_8 : decode cX8_act 8 = .ok (.invokevirtual 158, 3) := by decide +kernel
theorem dX8_act_11 : decode cX8_act 11 = .ok (.istore_n 2, 1) := by decide +kernel
theorem dX8_act_12 : decode cX8_act 12 = .ok (.aload_n 1, 1) := by decide +kernel
theorem dX8_act_13 : decode cX8_act 13 = .ok (.getfield 83, 3) := by decide +kernel
theorem dX8_act_16 : decode cX8_act 16 = .ok (.aload_n 0, 1) := by decide +kernel
theorem dX8_act_17 : decode cX8_act 17 = .ok (.getfield 58, 3) := by decide +kernel
theorem dX8_act_20 : decode cX8_act 20 = .ok (.invokevirtual 93, 3) := by decide +kernel
theorem dX8_act_23 : decode cX8_act 23 = .ok (.istore_n 3, 1) := by decide +kernel
theorem dX8_act_24 : decode cX8_act 24 = .ok (.iload_n 2, 1) := by decide +kernel
theorem dX8_act_25 : decode cX8_act 25 = .ok (.iconst 5, 1) := by decide +kernel
theorem dX8_act_26 : decode cX8_act 26 = .ok (.if_icmp .lt 16, 3) := by decide +kernel
theorem dX8_act_29 : decode cX8_act 29 = .ok (.iload_n 3, 1) := by decide +kernel
theorem dX8_act_30 : decode cX8_act 30 = .ok (.ifCond .lt 50, 3) := by decide +kernel
theorem dX8_act_33 : decode cX8_act 33 = .ok (.aload_n 1, 1) := by decide +kernel
theorem dX8_act_34 : decode cX8_act 34 = .ok (.iconst 1, 1) := by decide +kernel
theorem dX8_act_35 : decode cX8_act 35 = .ok (.iconst 2, 1) := by decide +kernel
theorem dX8_act_36 : decode cX8_act 36 = .ok (.invokevirtual 161, 3) := by decide +kernel
theorem dX8_act_39 : decode cX8_act 39 = .ok (.goto 41, 3) := by decide +kernel
theorem dX8_act_42 : decode cX8_act 42 = .ok (.iload_n 2, 1) := by decide +kernel
theorem dX8_act_43 : decode cX8_act 43 = .ok (.ifCond .eq 12, 3) := by decide +kernel
theorem dX8_act_46 : decode cX8_act 46 = .ok (.aload_n 1, 1) := by decide +kernel
theorem dX8_act_47 : decode cX8_act 47 = .ok (.iconst 0, 1) := by decide +kernel
theorem dX8_act_48 : decode cX8_act 48 = .ok (.iconst 1, 1) := by decide +kernel
theorem dX8_act_49 : decode cX8_act 49 = .ok (.invokevirtual 161, 3) := by decide +kernel
theorem dX8_act_52 : decode cX8_act 52 = .ok (.goto 28, 3) := by decide +kernel
theorem dX8_act_55 : decode cX8_act 55 = .ok (.aload_n 1, 1) := by decide +kernel
theorem dX8_act_56 : decode cX8_act 56 = .ok (.iconst 2, 1) := by decide +kernel
theorem dX8_act_57 : decode cX8_act 57 = .ok (.iconst 1, 1) := by decide +kernel
theorem dX8_act_58 : decode cX8_act 58 = .ok (.invokevirtual 164, 3) := by decide +kernel
theorem dX8_act_61 : decode cX8_act 61 = .ok (.aload_n 0, 1) := by decide +kernel
theorem dX8_act_62 : decode cX8_act 62 = .ok (.getfield 12, 3) := by decide +kernel
theorem dX8_act_65 : decode cX8_act 65 = .ok (.getfield 107, 3) := by decide +kernel
theorem dX8_act_68 : decode cX8_act 68 = .ok (.iload_n 3, 1) := by decide +kernel
theorem dX8_act_69 : decode cX8_act 69 = .ok (.invokestatic 147, 3) := by decide +kernel
theorem dX8_act_72 : decode cX8_act 72 = .ok (.iconst 2, 1) := by decide +kernel
theorem dX8_act_73 : decode cX8_act 73 = .ok (.if_icmp .ne 7, 3) := by decide +kernel
theorem dX8_act_76 : decode cX8_act 76 = .ok (.aload_n 1, 1) := by decide +kernel
theorem dX8_act_77 : decode cX8_act 77 = .ok (.invokevirtual 167, 3) := by decide +kernel
theorem dX8_act_80 : decode cX8_act 80 = .ok (.return_, 1) := by decide +kernel
theorem dX8_finishTaskOf_0 : decode cX8_finishTaskOf 0 = .ok (.aload_n 0, 1) := by decide +kernel
theorem dX8_finishTaskOf_1 : decode cX8_finishTaskOf 1 = .ok (.aload_n 1, 1) := by decide +kernel
theorem dX8_finishTaskOf_2 : decode cX8_finishTaskOf 2 = .ok (.getfield 138, 3) := by decide +kernel
theorem dX8_finishTaskOf_5 : decode cX8_finishTaskOf 5 = .ok (.invokevirtual 76, 3) := by decide +kernel
theorem dX8_finishTaskOf_8 : decode cX8_finishTaskOf 8 = .ok (.astore_n 3, 1) := by decide +kernel
theorem dX8_finishTaskOf_9 : decode cX8_finishTaskOf 9 = .ok (.aload_n 3, 1) := by decide +kernel
theorem dX8_finishTaskOf_10 : decode cX8_finishTaskOf 10 = .ok (.iconst 2, 1) := by decide +kernel
theorem dX8_finishTaskOf_11 : decode cX8_finishTaskOf 11 = .ok (.iconst 0, 1) := by decide +kernel
theorem dX8_finishTaskOf_12 : decode cX8_finishTaskOf 12 = .ok (.iload_n 2, 1) := by decide +kernel
theorem dX8_finishTaskOf_13 : decode cX8_finishTaskOf 13 = .ok (.invokevirtual 141, 3) := by decide +kernel
theorem dX8_finishTaskOf_16 : decode cX8_finishTaskOf 16 = .ok (.aload_n 3, 1) := by decide +kernel
theorem dX8_finishTaskOf_17 : decode cX8_finishTaskOf 17 = .ok (.aload_n 0, 1) := by decide +kernel
theorem dX8_finishTaskOf_18 : decode cX8_finishTaskOf 18 = .ok (.getfield 58, 3) := by decide +kernel
theorem dX8_finishTaskOf_21 : decode cX8_finishTaskOf 21 = .ok (.putfield 170, 3) := by decide +kernel
theorem dX8_finishTaskOf_24 : decode cX8_finishTaskOf 24 = .ok (.aload_n 1, 1) := by decide +kernel
theorem dX8_finishTaskOf_25 : decode cX8_finishTaskOf 25 = .ok (.iconst (-1), 1) := by decide +kernel
theorem dX8_finishTaskOf_26 : decode cX8_finishTaskOf 26 = .ok (.putfield 138, 3) := by decide +kernel
theorem dX8_finishTaskOf_29 : decode cX8_finishTaskOf 29 = .ok (.aload_n 1, 1) := by decide +kernel
theorem dX8_finishTaskOf_30 : decode cX8_finishTaskOf 30 = .ok (.iconst 3, 1) := by decide +kernel
theorem dX8_finishTaskOf_31 : decode cX8_finishTaskOf 31 = .ok (.iconst 1, 1) := by decide +kernel
theorem dX8_finishTaskOf_32 : decode cX8_finishTaskOf 32 = .ok (.invokevirtual 164, 3) := by decide +kernel
theorem dX8_finishTaskOf_35 : decode cX8_finishTaskOf 35 = .ok (.return_, 1) := by decide +kernel
theorem dX8_nextOpenTask_0 : decode cX8_nextOpenTask 0 = .ok (.iconst (-1), 1) := by decide +kernel
theorem dX8_nextOpenTask_1 : decode cX8_nextOpenTask 1 = .ok (.istore_n 2, 1) := by decide +kernel
theorem dX8_nextOpenTask_2 : decode cX8_nextOpenTask 2 = .ok (.iconst 0, 1) := by decide +kernel
theorem dX8_nextOpenTask_3 : decode cX8_nextOpenTask 3 = .ok (.istore_n 3, 1) := by decide +kernel
theorem dX8_nextOpenTask_4 : decode cX8_nextOpenTask 4 = .ok (.iload_n 3, 1) := by decide +kernel
theorem dX8_nextOpenTask_5 : decode cX8_nextOpenTask 5 = .ok (.aload_n 0, 1) := by decide +kernel
theorem dX8_nextOpenTask_6 : decode cX8_nextOpenTask 6 = .ok (.getfield 55, 3) := by decide +kernel
theorem dX8_nextOpenTask_9 : decode cX8_nextOpenTask 9 = .ok (.if_icmp .ge 60, 3) := by decide +kernel
theorem dX8_nextOpenTask_12 : decode cX8_nextOpenTask 12 = .ok (.aload_n 0, 1) := by decide +kernel
theorem dX8_nextOpenTask_13 : decode cX8_nextOpenTask 13 = .ok (.iload_n 3, 1) := by decide +kernel
theorem dX8_nextOpenTask_14 : decode cX8_nextOpenTask 14 = .ok (.invokevirtual 76, 3) := by decide +kernel
theorem dX8_nextOpenTask_17 : decode cX8_nextOpenTask 17 = .ok (.getfield 173, 3) := by decide +kernel
theorem dX8_nextOpenTask_20 : decode cX8_nextOpenTask 20 = .ok (.ifCond .ne 16, 3) := by decide +kernel
theorem dX8_nextOpenTask_23 : decode cX8_nextOpenTask 23 = .ok (.aload_n 0, 1) := by decide +kernel
theorem dX8_nextOpenTask_24 : decode cX8_nextOpenTask 24 = .ok (.iload_n 3, 1) := by decide +kernel
theorem dX8_nextOpenTask_25 : decode cX8_nextOpenTask 25 = .ok (.invokevirtual 176, 3) := by decide +kernel
theorem dX8_nextOpenTask_28 : decode cX8_nextOpenTask 28 = .ok (.iload_n 1, 1) := by decide +kernel
theorem dX8_nextOpenTask_29 : decode cX8_nextOpenTask 29 = .ok (.if_icmp .le 7, 3) := by decide +kernel
theorem dX8_nextOpenTask_32 : decode cX8_nextOpenTask 32 = .ok (.iconst 1, 1) := by decide +kernel
theorem dX8_nextOpenTask_33 : decode cX8_nextOpenTask 33 = .ok (.goto 4, 3) := by decide +kernel
theorem dX8_nextOpenTask_36 : decode cX8_nextOpenTask 36 = .ok (.iconst 0, 1) := by decide +kernel
theorem dX8_nextOpenTask_37 : decode cX8_nextOpenTask 37 = .ok (.istore 4, 2) := by decide +kernel
theorem dX8_nextOpenTask_39 : decode cX8_nextOpenTask 39 = .ok (.iload 4, 2) := by decide +kernel
theorem dX8_nextOpenTask_41 : decode cX8_nextOpenTask 41 = .ok (.ifCond .eq 22, 3) := by decide +kernel
theorem dX8_nextOpenTask_44 : decode cX8_nextOpenTask 44 = .ok (.iload_n 2, 1) := by decide +kernel
theorem dX8_nextOpenTask_45 : decode cX8_nextOpenTask 45 = .ok (.ifCond .lt 16, 3) := by decide +kernel
theorem dX8_nextOpenTask_48 : decode cX8_nextOpenTask 48 = .ok (.aload_n 0, 1) := by decide +kernel
theorem dX8_nextOpenTask_49 : decode cX8_nextOpenTask 49 = .ok (.iload_n 3, 1) := by decide +kernel
theorem dX8_nextOpenTask_50 : decode cX8_nextOpenTask 50 = .ok (.invokevirtual 176, 3) := by decide +kernel
theorem dX8_nextOpenTask_53 : decode cX8_nextOpenTask 53 = .ok (.aload_n 0, 1) := by decide +kernel
theorem dX8_nextOpenTask_54 : decode cX8_nextOpenTask 54 = .ok (.iload_n 2, 1) := by decide +kernel
theorem dX8_nextOpenTask_55 : decode cX8_nextOpenTask 55 = .ok (.invokevirtual 176, 3) := by decide +kernel
theorem dX8_nextOpenTask_58 : decode cX8_nextOpenTask 58 = .ok (.if_icmp .ge 5, 3) := by decide +kernel
theorem dX8_nextOpenTask_61 : decode cX8_nextOpenTask 61 = .ok (.iload_n 3, 1) := by decide +kernel
theorem dX8_nextOpenTask_62 : decode cX8_nextOpenTask 62 = .ok (.istore_n 2, 1) := by decide +kernel
theorem dX8_nextOpenTask_63 : decode cX8_nextOpenTask 63 = .ok (.iinc 3 1, 3) := by decide +kernel
theorem dX8_nextOpenTask_66 : decode cX8_nextOpenTask 66 = .ok (.goto (-62), 3) := by decide +kernel
theorem dX8_nextOpenTask_69 : decode cX8_nextOpenTask 69 = .ok (.iload_n 2, 1) := by decide +kernel
theorem dX8_nextOpenTask_70 : decode cX8_nextOpenTask 70 = .ok (.ireturn, 1) := by decide +kernel
theorem dX8_rankOf_0 : decode cX8_rankOf 0 = .ok (.aload_n 0, 1) := by decide +kernel
theorem dX8_rankOf_1 : decode cX8_rankOf 1 = .ok (.iload_n 1, 1) := by decide +kernel
theorem dX8_rankOf_2 : decode cX8_rankOf 2 = .ok (.invokevirtual 76, 3) := by decide +kernel
theorem dX8_rankOf_5 : decode cX8_rankOf 5 = .ok (.getfield 179, 3) := by decide +kernel
theorem dX8_rankOf_8 : decode cX8_rankOf 8 = .ok (.bipush 12, 2) := by decide +kernel
theorem dX8_rankOf_10 : decode cX8_rankOf 10 = .ok (.imul, 1) := by decide +kernel
theorem dX8_rankOf_11 : decode cX8_rankOf 11 = .ok (.iload_n 1, 1) := by decide +kernel
theorem dX8_rankOf_12 : decode cX8_rankOf 12 = .ok (.iadd, 1) := by decide +kernel
theorem dX8_rankOf_13 : decode cX8_rankOf 13 = .ok (.ireturn, 1) := by decide +kernel
theorem dX9_init_0 : decode cX9_init 0 = .ok (.aload_n 0, 1) := by decide +kernel
theorem dX9_init_1 : decode cX9_init 1 = .ok (.invokespecial 3, 3) := by decide +kernel
theorem dX9_init_4 : decode cX9_init 4 = .ok (.aload_n 0, 1) := by decide +kernel
theorem dX9_init_5 : decode cX9_init 5 = .ok (.new 9, 3) := by decide +kernel
theorem dX9_init_8 : decode cX9_init 8 = .ok (.dup, 1) := by decide +kernel
theorem dX9_init_9 : decode cX9_init 9 = .ok (.invokespecial 11, 3) := by decide +kernel
theorem dX9_init_12 : decode cX9_init 12 = .ok (.putfield 12, 3) := by decide +kernel
theorem dX9_init_15 : decode cX9_init 15 = .ok (.aload_n 0, 1) := by decide +kernel
theorem dX9_init_16 : decode cX9_init 16 = .ok (.new 9, 3) := by decide +kernel
theorem dX9_init_19 : decode cX9_init 19 = .ok (.dup, 1) := by decide +kernel
theorem dX9_init_20 : decode cX9_init 20 = .ok (.invokespecial 11, 3) := by decide +kernel
theorem dX9_init_23 : decode cX9_init 23 = .ok (.putfield 16, 3) := by decide +kernel
theorem dX9_init_26 : decode cX9_init 26 = .ok (.aload_n 0, 1) := by decide +kernel
theorem dX9_init_27 : decode cX9_init 27 = .ok (.new 9, 3) := by decide +kernel
theorem dX9_init_30 : decode cX9_init 30 = .ok (.dup, 1) := by decide +kernel
theorem dX9_init_31 : decode cX9_init 31 = .ok (.invokespecial 11, 3) := by decide +kernel
theorem dX9_init_34 : decode cX9_init 34 = .ok (.putfield 19, 3) := by decide +kernel
theorem dX9_init_37 : decode cX9_init 37 = .ok (.aload_n 0, 1) := by decide +kernel
theorem dX9_init_38 : decode cX9_init 38 = .ok (.new 22, 3) := by decide +kernel
theorem dX9_init_41 : decode cX9_init 41 = .ok (.dup, 1) := by decide +kernel
theorem dX9_init_42 : decode cX9_init 42 = .ok (.aload_n 0, 1) := by decide +kernel
theorem dX9_init_43 : decode cX9_init 43 = .ok (.getfield 12, 3) := by decide +kernel
theorem dX9_init_46 : decode cX9_init 46 = .ok (.invokespecial 24, 3) := by decide +kernel
theorem dX9_init_49 : decode cX9_init 49 = .ok (.putfield 27, 3) := by decide +kernel
theorem dX9_init_52 : decode cX9_init 52 = .ok (.aload_n 0, 1) := by decide +kernel
theorem dX9_init_53 : decode cX9_init 53 = .ok (.new 31, 3) := by decide +kernel
theorem dX9_init_56 : decode cX9_init 56 = .ok (.dup, 1) := by decide +kernel
theorem dX9_init_57 : decode cX9_init 57 = .ok (.invokespecial 33, 3) := by decide +kernel
theorem dX9_init_60 : decode cX9_init 60 = .ok (.putfield 34, 3) := by decide +kernel
theorem dX9_init_63 : decode cX9_init 63 = .ok (.aload_n 0, 1) := by decide +kernel
theorem dX9_init_64 : decode cX9_init 64 = .ok (.new 38, 3) := by decide +kernel
theorem dX9_init_67 : decode cX9_init 67 = .ok (.dup, 1) := by decide +kernel
theorem dX9_init_68 : decode cX9_init 68 = .ok (.invokespecial 40, 3) := by decide +kernel
theorem dX9_init_71 : decode cX9_init 71 = .ok (.putfield 41, 3) := by decide +kernel
theorem dX9_init_74 : decode cX9_init 74 = .ok (.aload_n 0, 1) := by decide +kernel
theorem dX9_init_75 : decode cX9_init 75 = .ok (.iconst 0, 1) := by decide +kernel
theorem dX9_init_76 : decode cX9_init 76 = .ok (.putfield 45, 3) := by decide +kernel
theorem dX9_init_79 : decode cX9_init 79 = .ok (.aload_n 0, 1) := by decide +kernel
theorem dX9_init_80 : decode cX9_init 80 = .ok (.iconst (-1), 1) := by decide +kernel
theorem dX9_init_81 : decode cX9_init 81 = .ok (.putfield 49, 3) := by decide +kernel
theorem dX9_init_84 : decode cX9_init 84 = .ok (.return_, 1) := by decide +kernel
theorem dX9_clear_0 : decode cX9_clear 0 = .ok (.aload_n 0, 1) := by decide +kernel
theorem dX9_clear_1 : decode cX9_clear 1 = .ok (.getfield 12, 3) := by decide +kernel
theorem dX9_clear_4 : decode cX9_clear 4 = .ok (.getfield 53, 3) := by decide +kernel
theorem dX9_clear_7 : decode cX9_clear 7 = .ok (.istore_n 1, 1) := by decide +kernel
theorem dX9_clear_8 : decode cX9_clear 8 = .ok (.aload_n 0, 1) := by decide +kernel
theorem dX9_clear_9 : decode cX9_clear 9 = .ok (.getfield 12, 3) := by decide +kernel
theorem dX9_clear_12 : decode cX9_clear 12 = .ok (.invokevirtual 56, 3) := by decide +kernel
theorem dX9_clear_15 : decode cX9_clear 15 = .ok (.iload_n 1, 1) := by decide +kernel
theorem dX9_clear_16 : decode cX9_clear 16 = .ok (.ireturn, 1) := by decide +kernel
theorem dX9_setCell_0 : decode cX9_setCell 0 = .ok (.aload_n 0, 1) := by decide +kernel
theorem dX9_setCell_1 : decode cX9_setCell 1 = .ok (.getfield 12, 3) := by decide +kernel
theorem dX9_setCell_4 : decode cX9_setCell 4 = .ok (.getfield 59, 3) := by decide +kernel
theorem dX9_setCell_7 : decode cX9_setCell 7 = .ok (.getfield 63, 3) := by decide +kernel
theorem dX9_setCell_10 : decode cX9_setCell 10 = .ok (.iload_n 1, 1) := by decide +kernel
theorem dX9_setCell_11 : decode cX9_setCell 11 = .ok (.invokestatic 69, 3) := by decide +kernel
theorem dX9_setCell_14 : decode cX9_setCell 14 = .ok (.istore_n 3, 1) := by decide +kernel
theorem dX9_setCell_15 : decode cX9_setCell 15 = .ok (.aload_n 0, 1) := by decide +kernel
theorem dX9_setCell_16 : decode cX9_setCell 16 = .ok (.getfield 12, 3) := by decide +kernel
theorem dX9_setCell_19 : decode cX9_setCell 19 = .ok (.iload_n 1, 1) := by decide +kernel
theorem dX9_setCell_20 : decode cX9_setCell 20 = .ok (.iload_n 2, 1) := by decide +kernel
theorem dX9_setCell_21 : decode cX9_setCell 21 = .ok (.invokevirtual 73, 3) := by decide +kernel
theorem dX9_setCell_24 : decode cX9_setCell 24 = .ok (.invokestatic 77, 3) := by decide +kernel
theorem dX9_setCell_27 : decode cX9_setCell 27 = .ok (.iload_n 3, 1) := by decide +kernel
theorem dX9_setCell_28 : decode cX9_setCell 28 = .ok (.ireturn, 1) := by decide +kernel
theorem dX9_cell_0 : decode cX9_cell 0 = .ok (.iload_n 1, 1) := by decide +kernel
theorem dX9_cell_1 : decode cX9_cell 1 = .ok (.invokestatic 81, 3) := by decide +kernel
theorem dX9_cell_4 : decode cX9_cell 4 = .ok (.aload_n 0, 1) := by decide +kernel
theorem dX9_cell_5 : decode cX9_cell 5 = .ok (.getfield 12, 3) := by decide +kernel
theorem dX9_cell_8 : decode cX9_cell 8 = .ok (.getfield 59, 3) := by decide +kernel
theorem dX9_cell_11 : decode cX9_cell 11 = .ok (.getfield 63, 3) := by decide +kernel
theorem dX9_cell_14 : decode cX9_cell 14 = .ok (.iload_n 1, 1) := by decide +kernel
theorem dX9_cell_15 : decode cX9_cell 15 = .ok (.invokestatic 69, 3) := by decide +kernel
theorem dX9_cell_18 : decode cX9_cell 18 = .ok (.ireturn, 1) := by decide +kernel
theorem dX9_addLift_0 : decode cX9_addLift 0 = .ok (.aload_n 0, 1) := by decide +kernel
theorem dX9_addLift_1 : decode cX9_addLift 1 = .ok (.getfield 12, 3) := by decide +kernel
theorem dX9_addLift_4 : decode cX9_addLift 4 = .ok (.iload_n 1, 1) := by decide +kernel
theorem dX9_addLift_5 : decode cX9_addLift 5 = .ok (.iload_n 2, 1) := by decide +kernel
theorem dX9_addLift_6 : decode cX9_addLift 6 = .ok (.invokevirtual 84, 3) := by decide +kernel
theorem dX9_addLift_9 : decode cX9_addLift 9 = .ok (.invokestatic 77, 3) := by decide +kernel
theorem dX9_addLift_12 : decode cX9_addLift 12 = .ok (.aload_n 0, 1) := by decide +kernel
theorem dX9_addLift_13 : decode cX9_addLift 13 = .ok (.getfield 12, 3) := by decide +kernel
theorem dX9_addLift_16 : decode cX9_addLift 16 = .ok (.getfield 59, 3) := by decide +kernel
theorem dX9_addLift_19 : decode cX9_addLift 19 = .ok (.getfield 87, 3) := by decide +kernel
theorem dX9_addLift_22 : decode cX9_addLift 22 = .ok (.iconst 1, 1) := by decide +kernel
theorem dX9_addLift_23 : decode cX9_addLift 23 = .ok (.isub, 1) := by decide +kernel
theorem dX9_addLift_24 : decode cX9_addLift 24 = .ok (.ireturn, 1) := by decide +kernel
theorem dX9_addRobot_0 : decode cX9_addRobot 0 = .ok (.aload_n 0, 1) := by decide +kernel
theorem dX9_addRobot_1 : decode cX9_addRobot 1 = .ok (.getfield 12, 3) := by decide +kernel
theorem dX9_addRobot_4 : decode cX9_addRobot 4 = .ok (.iload_n 1, 1) := by decide +kernel
theorem dX9_addRobot_5 : decode cX9_addRobot 5 = .ok (.iload_n 2, 1) := by decide +kernel
theorem dX9_addRobot_6 : decode cX9_addRobot 6 = .ok (.invokevirtual 90, 3) := by decide +kernel
theorem dX9_addRobot_9 : decode cX9_addRobot 9 = .ok (.invokestatic 77, 3) := by decide +kernel
theorem dX9_addRobot_12 : decode cX9_addRobot 12 = .ok (.aload_n 0, 1) := by decide +kernel
theorem dX9_addRobot_13 : decode cX9_addRobot 13 = .ok (.getfield 12, 3) := by decide +kernel
theorem dX9_addRobot_16 : decode cX9_addRobot 16 = .ok (.getfield 53, 3) := by decide +kernel
theorem dX9_addRobot_19 : decode cX9_addRobot 19 = .ok (.iconst 1, 1) := by decide +kernel
theorem dX9_addRobot_20 : decode cX9_addRobot 20 = .ok (.isub, 1) := by decide +kernel
theorem dX9_addRobot_21 : decode cX9_addRobot 21 = .ok (.ireturn, 1) := by decide +kernel
theorem dX9_robot_0 : decode cX9_robot 0 = .ok (.aload_n 0, 1) := by decide +kernel
theorem dX9_robot_1 : decode cX9_robot 1 = .ok (.iload_n 1, 1) := by decide +kernel
theorem dX9_robot_2 : decode cX9_robot 2 = .ok (.invokevirtual 93, 3) := by decide +kernel
theorem dX9_robot_5 : decode cX9_robot 5 = .ok (.aload_n 0, 1) := by decide +kernel
theorem dX9_robot_6 : decode cX9_robot 6 = .ok (.getfield 12, 3) := by decide +kernel
theorem dX9_robot_9 : decode cX9_robot 9 = .ok (.iload_n 1, 1) := by decide +kernel
theorem dX9_robot_10 : decode cX9_robot 10 = .ok (.invokevirtual 96, 3) := by decide +kernel
theorem dX9_robot_13 : decode cX9_robot 13 = .ok (.astore_n 3, 1) := by decide +kernel
theorem dX9_robot_14 : decode cX9_robot 14 = .ok (.aload_n 3, 1) := by decide +kernel
theorem dX9_robot_15 : decode cX9_robot 15 = .ok (.getfield 100, 3) := by decide +kernel
theorem dX9_robot_18 : decode cX9_robot 18 = .ok (.aload_n 0, 1) := by decide +kernel
theorem dX9_robot_19 : decode cX9_robot 19 = .ok (.getfield 12, 3) := by decide +kernel
theorem dX9_robot_22 : decode cX9_robot 22 = .ok (.getfield 106, 3) := by decide +kernel
theorem dX9_robot_25 : decode cX9_robot 25 = .ok (.invokevirtual 109, 3) := by decide +kernel
theorem dX9_robot_28 : decode cX9_robot 28 = .ok (.istore 4, 2) := by decide +kernel
theorem dX9_robot_30 : decode cX9_robot 30 = .ok (.iload_n 2, 1) := by decide +kernel
theorem dX9_robot_31 : decode cX9_robot 31 = .ok (.tableswitch 98 0 5 #[37, 44, 49, 64, 79, 84], 37) := by decide +kernel
theorem dX9_robot_68 : decode cX9_robot 68 = .ok (.iload 4, 2) := by decide +kernel
theorem dX9_robot_70 : decode cX9_robot 70 = .ok (.iconst (-1), 1) := by decide +kernel
theorem dX9_robot_71 : decode cX9_robot 71 = .ok (.invokestatic 115, 3) := by decide +kernel
theorem dX9_robot_74 : decode cX9_robot 74 = .ok (.ireturn, 1) := by decide +kernel
theorem dX9_robot_75 : decode cX9_robot 75 = .ok (.aload_n 3, 1) := by decide +kernel
theorem dX9_robot_76 : decode cX9_robot 76 = .ok (.getfield 120, 3) := by decide +kernel
theorem dX9_robot_79 : decode cX9_robot 79 = .ok (.ireturn, 1) := by decide +kernel
theorem dX9_robot_80 : decode cX9_robot 80 = .ok (.aload_n 3, 1) := by decide +kernel
theorem dX9_robot_81 : decode cX9_robot 81 = .ok (.getfield 100, 3) := by decide +kernel
theorem dX9_robot_84 : decode cX9_robot 84 = .ok (.aload_n 0, 1) := by decide +kernel
theorem dX9_robot_85 : decode cX9_robot 85 = .ok (.getfield 12, 3) := by decide +kernel
theorem dX9_robot_88 : decode cX9_robot 88 = .ok (.getfield 106, 3) := by decide +kernel
theorem dX9_robot_91 : decode cX9_robot 91 = .ok (.invokevirtual 123, 3) := by decide +kernel
theorem dX9_robot_94 : decode cX9_robot 94 = .ok (.ireturn, 1) := by decide +kernel
theorem dX9_robot_95 : decode cX9_robot 95 = .ok (.aload_n 3, 1) := by decide +kernel
theorem dX9_robot_96 : decode cX9_robot 96 = .ok (.getfield 100, 3) := by decide +kernel
theorem dX9_robot_99 : decode cX9_robot 99 = .ok (.aload_n 0, 1) := by decide +kernel
theorem dX9_robot_100 : decode cX9_robot 100 = .ok (.getfield 12, 3) := by decide +kernel
theorem dX9_robot_103 : decode cX9_robot 103 = .ok (.getfield 106, 3) := by decide +kernel
theorem dX9_robot_106 : decode cX9_robot 106 = .ok (.invokevirtual 126, 3) := by decide +kernel
theorem dX9_robot_109 : decode cX9_robot 109 = .ok (.ireturn, 1) := by decide +kernel
theorem dX9_robot_110 : decode cX9_robot 110 = .ok (.aload_n 3, 1) := by decide +kernel
theorem dX9_robot_111 : decode cX9_robot 111 = .ok (.getfield 129, 3) := by decide +kernel
theorem dX9_robot_114 : decode cX9_robot 114 = .ok (.ireturn, 1) := by decide +kernel
theorem dX9_robot_115 : decode cX9_robot 115 = .ok (.iload 4, 2) := by decide +kernel
theorem dX9_robot_117 : decode cX9_robot 117 = .ok (.ifCond .ge 10, 3) := by decide +kernel
theorem dX9_robot_120 : decode cX9_robot 120 = .ok (.iconst (-1), 1) := by decide +kernel
theorem dX9_robot_121 : decode cX9_robot 121 = .ok (.iload 4, 2) := by decide +kernel
theorem dX9_robot_123 : decode cX9_robot 123 = .ok (.isub, 1) := by decide +kernel
theorem dX9_robot_124 : decode cX9_robot 124 = .ok (.goto 4, 3) := by decide +kernel
theorem dX9_robot_127 : decode cX9_robot 127 = .ok (.iconst (-1), 1) := by decide +kernel
theorem dX9_robot_128 : decode cX9_robot 128 = .ok (.ireturn, 1) := by decide +kernel
theorem dX9_robot_129 : decode cX9_robot 129 = .ok (.new 132, 3) := by decide +kernel
theorem dX9_robot_132 : decode cX9_robot 132 = .ok (.dup, 1) := by decide +kernel
theorem dX9_robot_133 : decode cX9_robot 133 = .ok (.ldc 134, 2) := by decide +kernel
theorem dX9_robot_135 : decode cX9_robot 135 = .ok (.invokespecial 136, 3) := by decide +kernel
theorem dX9_robot_138 : decode cX9_robot 138 = .ok (.athrow, 1) := by decide +kernel
theorem dX9_count_0 : decode cX9_count 0 = .ok (.iload_n 1, 1) := by decide +kernel
theorem dX9_count_1 : decode cX9_count 1 = .ok (.tableswitch 98 0 5 #[39, 47, 58, 66, 78, 90], 39) := by decide +kernel
theorem dX9_count_40 : decode cX9_count 40 = .ok (.aload_n 0, 1) := by decide +kernel
theorem dX9_count_41 : decode cX9_count 41 = .ok (.getfield 12, 3) := by decide +kernel
theorem dX9_count_44 : decode cX9_count 44 = .ok (.getfield 53, 3) := by decide +kernel
theorem dX9_count_47 : decode cX9_count 47 = .ok (.ireturn, 1) := by decide +kernel
theorem dX9_count_48 : decode cX9_count 48 = .ok (.aload_n 0, 1) := by decide +kernel
theorem dX9_count_49 : decode cX9_count 49 = .ok (.getfield 12, 3) := by decide +kernel
theorem dX9_count_52 : decode cX9_count 52 = .ok (.getfield 59, 3) := by decide +kernel
theorem dX9_count_55 : decode cX9_count 55 = .ok (.getfield 87, 3) := by decide +kernel
theorem dX9_count_58 : decode cX9_count 58 = .ok (.ireturn, 1) := by decide +kernel
theorem dX9_count_59 : decode cX9_count 59 = .ok (.aload_n 0, 1) := by decide +kernel
theorem dX9_count_60 : decode cX9_count 60 = .ok (.getfield 12, 3) := by decide +kernel
theorem dX9_count_63 : decode cX9_count 63 = .ok (.getfield 139, 3) := by decide +kernel
theorem dX9_count_66 : decode cX9_count 66 = .ok (.ireturn, 1) := by decide +kernel
theorem dX9_count_67 : decode cX9_count 67 = .ok (.aload_n 0, 1) := by decide +kernel
theorem dX9_count_68 : decode cX9_count 68 = .ok (.getfield 12, 3) := by decide +kernel
theorem dX9_count_71 : decode cX9_count 71 = .ok (.getfield 59, 3) := by decide +kernel
theorem dX9_count_74 : decode cX9_count 74 = .ok (.iconst 1, 1) := by decide +kernel
theorem dX9_count_75 : decode cX9_count 75 = .ok (.invokevirtual 142, 3) := by decide +kernel
theorem dX9_count_78 : decode cX9_count 78 = .ok (.ireturn, 1) := by decide +kernel
theorem dX9_count_79 : decode cX9_count 79 = .ok (.aload_n 0, 1) := by decide +kernel
theorem dX9_count_80 : decode cX9_count 80 = .ok (.getfield 12, 3) := by decide +kernel
theorem dX9_count_83 : decode cX9_count 83 = .ok (.getfield 59, 3) := by decide +kernel
theorem dX9_count_86 : decode cX9_count 86 = .ok (.iconst 2, 1) := by decide +kernel
theorem dX9_count_87 : decode cX9_count 87 = .ok (.invokevirtual 142, 3) := by decide +kernel
theorem dX9_count_90 : decode cX9_count 90 = .ok (.ireturn, 1) := by decide +kernel
theorem dX9_count_91 : decode cX9_count 91 = .ok (.aload_n 0, 1) := by decide +kernel
theorem dX9_count_92 : decode cX9_count 92 = .ok (.getfield 12, 3) := by decide +kernel
theorem dX9_count_95 : decode cX9_count 95 = .ok (.getfield 106, 3) := by decide +kernel
theorem dX9_count_98 : decode cX9_count 98 = .ok (.ireturn, 1) := by decide +kernel
theorem dX9_count_99 : decode cX9_count 99 = .ok (.new 132, 3) := by decide +kernel
theorem dX9_count_102 : decode cX9_count 102 = .ok (.dup, 1) := by decide +kernel
theorem dX9_count_103 : decode cX9_count 103 = .ok (.ldc 134, 2) := by decide +kernel
theorem dX9_count_105 : decode cX9_count 105 = .ok (.invokespecial 136, 3) := by decide +kernel
theorem dX9_count_108 : decode cX9_count 108 = .ok (.athrow, 1) := by decide +kernel
theorem dX9_region_0 : decode cX9_region 0 = .ok (.iload_n 1, 1) := by decide +kernel
theorem dX9_region_1 : decode cX9_region 1 = .ok (.invokestatic 81, 3) := by decide +kernel
theorem dX9_region_4 : decode cX9_region 4 = .ok (.aload_n 0, 1) := by decide +kernel
theorem dX9_region_5 : decode cX9_region 5 = .ok (.getfield 12, 3) := by decide +kernel
theorem dX9_region_8 : decode cX9_region 8 = .ok (.getfield 59, 3) := by decide +kernel
theorem dX9_region_11 : decode cX9_region 11 = .ok (.iload_n 1, 1) := by decide +kernel
theorem dX9_region_12 : decode cX9_region 12 = .ok (.invokevirtual 145, 3) := by decide +kernel
theorem dX9_region_15 : decode cX9_region 15 = .ok (.ireturn, 1) := by decide +kernel
theorem dX9_ticksBetween_0 : decode cX9_ticksBetween 0 = .ok (.iload_n 1, 1) := by decide +kernel
theorem dX9_ticksBetween_1 : decode cX9_ticksBetween 1 = .ok (.invokestatic 81, 3) := by decide +kernel
theorem dX9_ticksBetween_4 : decode cX9_ticksBetween 4 = .ok (.iload_n 2, 1) := by decide +kernel
theorem dX9_ticksBetween_5 : decode cX9_ticksBetween 5 = .ok (.invokestatic 81, 3) := by decide +kernel
theorem dX9_ticksBetween_8 : decode cX9_ticksBetween 8 = .ok (.aload_n 0, 1) := by decide +kernel
theorem dX9_ticksBetween_9 : decode cX9_ticksBetween 9 = .ok (.getfield 12, 3) := by decide +kernel
theorem dX9_ticksBetween_12 : decode cX9_ticksBetween 12 = .ok (.getfield 59, 3) := by decide +kernel
theorem dX9_ticksBetween_15 : decode cX9_ticksBetween 15 = .ok (.iload_n 1, 1) := by decide +kernel
theorem dX9_ticksBetween_16 : decode cX9_ticksBetween 16 = .ok (.iload_n 2, 1) := by decide +kernel
theorem dX9_ticksBetween_17 : decode cX9_ticksBetween 17 = .ok (.invokevirtual 148, 3) := by decide +kernel
theorem dX9_ticksBetween_20 : decode cX9_ticksBetween 20 = .ok (.istore_n 3, 1) := by decide +kernel
theorem dX9_ticksBetween_21 : decode cX9_ticksBetween 21 = .ok (.iload_n 3, 1) := by decide +kernel
theorem dX9_ticksBetween_22 : decode cX9_ticksBetween 22 = .ok (.ldc 151, 2) := by decide +kernel
theorem dX9_ticksBetween_24 : decode cX9_ticksBetween 24 = .ok (.if_icmp .lt 13, 3) := by decide +kernel
theorem dX9_ticksBetween_27 : decode cX9_ticksBetween 27 = .ok (.new 152, 3) := by decide +kernel
theorem dX9_ticksBetween_30 : decode cX9_ticksBetween 30 = .ok (.dup, 1) := by decide +kernel
theorem dX9_ticksBetween_31 : decode cX9_ticksBetween 31 = .ok (.ldc 154, 2) := by decide +kernel
theorem dX9_ticksBetween_33 : decode cX9_ticksBetween 33 = .ok (.invokespecial 156, 3) := by decide +kernel
theorem dX9_ticksBetween_36 : decode cX9_ticksBetween 36 = .ok (.athrow, 1) := by decide +kernel
theorem dX9_ticksBetween_37 : decode cX9_ticksBetween 37 = .ok (.iload_n 3, 1) := by decide +kernel
theorem dX9_ticksBetween_38 : decode cX9_ticksBetween 38 = .ok (.ireturn, 1) := by decide +kernel
theorem dX9_plan_0 : decode cX9_plan 0 = .ok (.aload_n 0, 1) := by decide +kernel
theorem dX9_plan_1 : decode cX9_plan 1 = .ok (.iload_n 1, 1) := by decide +kernel
theorem dX9_plan_2 : decode cX9_plan 2 = .ok (.iload_n 2, 1) := by decide +kernel
theorem dX9_plan_3 : decode cX9_plan 3 = .ok (.invokevirtual 157, 3) := by decide +kernel
theorem dX9_plan_6 : decode cX9_plan 6 = .ok (.aload_n 0, 1) := by decide +kernel
theorem dX9_plan_7 : decode cX9_plan 7 = .ok (.getfield 27, 3) := by decide +kernel
theorem dX9_plan_10 : decode cX9_plan 10 = .ok (.iload_n 1, 1) := by decide +kernel
theorem dX9_plan_11 : decode cX9_plan 11 = .ok (.invokevirtual 161, 3) := by decide +kernel
theorem dX9_plan_14 : decode cX9_plan 14 = .ok (.ifCond .ne 13, 3) := by decide +kernel
theorem dX9_plan_17 : decode cX9_plan 17 = .ok (.new 165, 3) := by decide +kernel
theorem dX9_plan_20 : decode cX9_plan 20 = .ok (.dup, 1) := by decide +kernel
theorem dX9_plan_21 : decode cX9_plan 21 = .ok (.ldc 167, 2) := by decide +kernel
theorem dX9_plan_23 : decode cX9_plan 23 = .ok (.invokespecial 169, 3) := by decide +kernel
theorem dX9_plan_26 : decode cX9_plan 26 = .ok (.athrow, 1) := by decide +kernel
theorem dX9_plan_27 : decode cX9_plan 27 = .ok (.aload_n 0, 1) := by decide +kernel
theorem dX9_plan_28 : decode cX9_plan 28 = .ok (.getfield 27, 3) := by decide +kernel
theorem dX9_plan_31 : decode cX9_plan 31 = .ok (.iload_n 1, 1) := by decide +kernel
theorem dX9_plan_32 : decode cX9_plan 32 = .ok (.iconst (-1), 1) := by decide +kernel
theorem dX9_plan_33 : decode cX9_plan 33 = .ok (.invokevirtual 170, 3) := by decide +kernel
theorem dX9_plan_36 : decode cX9_plan 36 = .ok (.aload_n 0, 1) := by decide +kernel
theorem dX9_plan_37 : decode cX9_plan 37 = .ok (.getfield 27, 3) := by decide +kernel
theorem dX9_plan_40 : decode cX9_plan 40 = .ok (.getfield 173, 3) := by decide +kernel
theorem dX9_plan_43 : decode cX9_plan 43 = .ok (.getfield 176, 3) := by decide +kernel
theorem dX9_plan_46 : decode cX9_plan 46 = .ok (.ireturn, 1) := by decide +kernel
theorem dX9_arrival_0 : decode cX9_arrival 0 = .ok (.aload_n 0, 1) := by decide +kernel
theorem dX9_arrival_1 : decode cX9_arrival 1 = .ok (.iload_n 1, 1) := by decide +kernel
theorem dX9_arrival_2 : decode cX9_arrival 2 = .ok (.iload_n 2, 1) := by decide +kernel
theorem dX9_arrival_3 : decode cX9_arrival 3 = .ok (.invokevirtual 157, 3) := by decide +kernel
theorem dX9_arrival_6 : decode cX9_arrival 6 = .ok (.aload_n 0, 1) := by decide +kernel
theorem dX9_arrival_7 : decode cX9_arrival 7 = .ok (.getfield 27, 3) := by decide +kernel
theorem dX9_arrival_10 : decode cX9_arrival 10 = .ok (.getfield 173, 3) := by decide +kernel
theorem dX9_arrival_13 : decode cX9_arrival 13 = .ok (.getfield 176, 3) := by decide +kernel
theorem dX9_arrival_16 : decode cX9_arrival 16 = .ok (.ireturn, 1) := by decide +kernel
theorem dX9_routeCost_0 : decode cX9_routeCost 0 = .ok (.aload_n 0, 1) := by decide +kernel
theorem dX9_routeCost_1 : decode cX9_routeCost 1 = .ok (.iload_n 1, 1) := by decide +kernel
theorem dX9_routeCost_2 : decode cX9_routeCost 2 = .ok (.iload_n 2, 1) := by decide +kernel
theorem dX9_routeCost_3 : decode cX9_routeCost 3 = .ok (.invokevirtual 157, 3) := by decide +kernel
theorem dX9_routeCost_6 : decode cX9_routeCost 6 = .ok (.aload_n 0, 1) := by decide +kernel
theorem dX9_routeCost_7 : decode cX9_routeCost 7 = .ok (.getfield 27, 3) := by decide +kernel
theorem dX9_routeCost_10 : decode cX9_routeCost 10 = .ok (.getfield 173, 3) := by decide +kernel
theorem dX9_routeCost_13 : decode cX9_routeCost 13 = .ok (.getfield 179, 3) := by decide +kernel
theorem dX9_routeCost_16 : decode cX9_routeCost 16 = .ok (.ireturn, 1) := by decide +kernel
theorem dX9_action_0 : decode cX9_action 0 = .ok (.aload_n 0, 1) := by decide +kernel
theorem dX9_action_1 : decode cX9_action 1 = .ok (.iload_n 1, 1) := by decide +kernel
theorem dX9_action_2 : decode cX9_action 2 = .ok (.invokevirtual 93, 3) := by decide +kernel
theorem dX9_action_5 : decode cX9_action 5 = .ok (.aload_n 0, 1) := by decide +kernel
theorem dX9_action_6 : decode cX9_action 6 = .ok (.getfield 12, 3) := by decide +kernel
theorem dX9_action_9 : decode cX9_action 9 = .ok (.iload_n 1, 1) := by decide +kernel
theorem dX9_action_10 : decode cX9_action 10 = .ok (.invokevirtual 96, 3) := by decide +kernel
theorem dX9_action_13 : decode cX9_action 13 = .ok (.getfield 100, 3) := by decide +kernel
theorem dX9_action_16 : decode cX9_action 16 = .ok (.aload_n 0, 1) := by decide +kernel
theorem dX9_action_17 : decode cX9_action 17 = .ok (.getfield 12, 3) := by decide +kernel
theorem dX9_action_20 : decode cX9_action 20 = .ok (.getfield 106, 3) := by decide +kernel
theorem dX9_action_23 : decode cX9_action 23 = .ok (.iload_n 2, 1) := by decide +kernel
theorem dX9_action_24 : decode cX9_action 24 = .ok (.invokevirtual 182, 3) := by decide +kernel
theorem dX9_action_27 : decode cX9_action 27 = .ok (.istore_n 3, 1) := by decide +kernel
theorem dX9_action_28 : decode cX9_action 28 = .ok (.iload_n 3, 1) := by decide +kernel
theorem dX9_action_29 : decode cX9_action 29 = .ok (.ifCond .ge 13, 3) := by decide +kernel
theorem dX9_action_32 : decode cX9_action 32 = .ok (.new 152, 3) := by decide +kernel
theorem dX9_action_35 : decode cX9_action 35 = .ok (.dup, 1) := by decide +kernel
theorem dX9_action_36 : decode cX9_action 36 = .ok (.ldc 185, 2) := by decide +kernel
theorem dX9_action_38 : decode cX9_action 38 = .ok (.invokespecial 156, 3) := by decide +kernel
theorem dX9_action_41 : decode cX9_action 41 = .ok (.athrow, 1) := by decide +kernel
theorem dX9_action_42 : decode cX9_action 42 = .ok (.iload_n 3, 1) := by decide +kernel
theorem dX9_action_43 : decode cX9_action 43 = .ok (.ireturn, 1) := by decide +kernel
theorem dX9_cellAfter_0 : decode cX9_cellAfter 0 = .ok (.aload_n 0, 1) := by decide +kernel
theorem dX9_cellAfter_1 : decode cX9_cellAfter 1 = .ok (.iload_n 1, 1) := by decide +kernel
theorem dX9_cellAfter_2 : decode cX9_cellAfter 2 = .ok (.invokevirtual 93, 3) := by decide +kernel
theorem dX9_cellAfter_5 : decode cX9_cellAfter 5 = .ok (.iload_n 2, 1) := by decide +kernel
theorem dX9_cellAfter_6 : decode cX9_cellAfter 6 = .ok (.iconst 0, 1) := by decide +kernel
theorem dX9_cellAfter_7 : decode cX9_cellAfter 7 = .ok (.invokestatic 187, 3) := by decide +kernel
theorem dX9_cellAfter_10 : decode cX9_cellAfter 10 = .ok (.aload_n 0, 1) := by decide +kernel
theorem dX9_cellAfter_11 : decode cX9_cellAfter 11 = .ok (.getfield 12, 3) := by decide +kernel
theorem dX9_cellAfter_14 : decode cX9_cellAfter 14 = .ok (.iload_n 1, 1) := by decide +kernel
theorem dX9_cellAfter_15 : decode cX9_cellAfter 15 = .ok (.invokevirtual 96, 3) := by decide +kernel
theorem dX9_cellAfter_18 : decode cX9_cellAfter 18 = .ok (.getfield 100, 3) := by decide +kernel
theorem dX9_cellAfter_21 : decode cX9_cellAfter 21 = .ok (.aload_n 0, 1) := by decide +kernel
theorem dX9_cellAfter_22 : decode cX9_cellAfter 22 = .ok (.getfield 12, 3) := by decide +kernel
theorem dX9_cellAfter_25 : decode cX9_cellAfter 25 = .ok (.getfield 106, 3) := by decide +kernel
theorem dX9_cellAfter_28 : decode cX9_cellAfter 28 = .ok (.iload_n 2, 1) := by decide +kernel
theorem dX9_cellAfter_29 : decode cX9_cellAfter 29 = .ok (.iadd, 1) := by decide +kernel
theorem dX9_cellAfter_30 : decode cX9_cellAfter 30 = .ok (.invokevirtual 109, 3) := by decide +kernel
theorem dX9_cellAfter_33 : decode cX9_cellAfter 33 = .ok (.ireturn, 1) := by decide +kernel
theorem dX9_robotAt_0 : decode cX9_robotAt 0 = .ok (.iload_n 1, 1) := by decide +kernel
theorem dX9_robotAt_1 : decode cX9_robotAt 1 = .ok (.invokestatic 81, 3) := by decide +kernel
theorem dX9_robotAt_4 : decode cX9_robotAt 4 = .ok (.iload_n 2, 1) := by decide +kernel
theorem dX9_robotAt_5 : decode cX9_robotAt 5 = .ok (.iconst 0, 1) := by decide +kernel
theorem dX9_robotAt_6 : decode cX9_robotAt 6 = .ok (.invokestatic 187, 3) := by decide +kernel
theorem dX9_robotAt_9 : decode cX9_robotAt 9 = .ok (.aload_n 0, 1) := by decide +kernel
theorem dX9_robotAt_10 : decode cX9_robotAt 10 = .ok (.getfield 12, 3) := by decide +kernel
theorem dX9_robotAt_13 : decode cX9_robotAt 13 = .ok (.iload_n 1, 1) := by decide +kernel
theorem dX9_robotAt_14 : decode cX9_robotAt 14 = .ok (.aload_n 0, 1) := by decide +kernel
theorem dX9_robotAt_15 : decode cX9_robotAt 15 = .ok (.getfield 12, 3) := by decide +kernel
theorem dX9_robotAt_18 : decode cX9_robotAt 18 = .ok (.getfield 106, 3) := by decide +kernel
theorem dX9_robotAt_21 : decode cX9_robotAt 21 = .ok (.iload_n 2, 1) := by decide +kernel
theorem dX9_robotAt_22 : decode cX9_robotAt 22 = .ok (.iadd, 1) := by decide +kernel
theorem dX9_robotAt_23 : decode cX9_robotAt 23 = .ok (.invokevirtual 190, 3) := by decide +kernel
theorem dX9_robotAt_26 : decode cX9_robotAt 26 = .ok (.ireturn, 1) := by decide +kernel
theorem dX9_cancel_0 : decode cX9_cancel 0 = .ok (.aload_n 0, 1) := by decide +kernel
theorem dX9_cancel_1 : decode cX9_cancel 1 = .ok (.iload_n 1, 1) := by decide +kernel
theorem dX9_cancel_2 : decode cX9_cancel 2 = .ok (.invokevirtual 93, 3) := by decide +kernel
theorem dX9_cancel_5 : decode cX9_cancel 5 = .ok (.aload_n 0, 1) := by decide +kernel
theorem dX9_cancel_6 : decode cX9_cancel 6 = .ok (.iload_n 1, 1) := by decide +kernel
theorem dX9_cancel_7 : decode cX9_cancel 7 = .ok (.invokevirtual 193, 3) := by decide +kernel
theorem dX9_cancel_10 : decode cX9_cancel 10 = .ok (.aload_n 0, 1) := by decide +kernel
theorem dX9_cancel_11 : decode cX9_cancel 11 = .ok (.getfield 12, 3) := by decide +kernel
theorem dX9_cancel_14 : decode cX9_cancel 14 = .ok (.iload_n 1, 1) := by decide +kernel
theorem dX9_cancel_15 : decode cX9_cancel 15 = .ok (.invokevirtual 96, 3) := by decide +kernel
theorem dX9_cancel_18 : decode cX9_cancel 18 = .ok (.astore_n 2, 1) := by decide +kernel
theorem dX9_cancel_19 : decode cX9_cancel 19 = .ok (.aload_n 2, 1) := by decide +kernel
theorem dX9_cancel_20 : decode cX9_cancel 20 = .ok (.getfield 100, 3) := by decide +kernel
theorem dX9_cancel_23 : decode cX9_cancel 23 = .ok (.aload_n 0, 1) := by decide +kernel
theorem dX9_cancel_24 : decode cX9_cancel 24 = .ok (.getfield 12, 3) := by decide +kernel
theorem dX9_cancel_27 : decode cX9_cancel 27 = .ok (.getfield 106, 3) := by decide +kernel
theorem dX9_cancel_30 : decode cX9_cancel 30 = .ok (.invokevirtual 109, 3) := by decide +kernel
theorem dX9_cancel_33 : decode cX9_cancel 33 = .ok (.istore_n 3, 1) := by decide +kernel
theorem dX9_cancel_34 : decode cX9_cancel 34 = .ok (.aload_n 0, 1) := by decide +kernel
theorem dX9_cancel_35 : decode cX9_cancel 35 = .ok (.getfield 12, 3) := by decide +kernel
theorem dX9_cancel_38 : decode cX9_cancel 38 = .ok (.iload_n 3, 1) := by decide +kernel
theorem dX9_cancel_39 : decode cX9_cancel 39 = .ok (.iload_n 1, 1) := by decide +kernel
theorem dX9_cancel_40 : decode cX9_cancel 40 = .ok (.invokevirtual 196, 3) := by decide +kernel
theorem dX9_cancel_43 : decode cX9_cancel 43 = .ok (.ifCond .eq 13, 3) := by decide +kernel
theorem dX9_cancel_46 : decode cX9_cancel 46 = .ok (.new 165, 3) := by decide +kernel
theorem dX9_cancel_49 : decode cX9_cancel 49 = .ok (.dup, 1) := by decide +kernel
theorem dX9_cancel_50 : decode cX9_cancel 50 = .ok (.ldc 200, 2) := by decide +kernel
theorem dX9_cancel_52 : decode cX9_cancel 52 = .ok (.invokespecial 169, 3) := by decide +kernel
theorem dX9_cancel_55 : decode cX9_cancel 55 = .ok (.athrow, 1) := by decide +kernel
theorem dX9_cancel_56 : decode cX9_cancel 56 = .ok (.aload_n 2, 1) := by decide +kernel
theorem dX9_cancel_57 : decode cX9_cancel 57 = .ok (.getfield 100, 3) := by decide +kernel
theorem dX9_cancel_60 : decode cX9_cancel 60 = .ok (.aload_n 0, 1) := by decide +kernel
theorem dX9_cancel_61 : decode cX9_cancel 61 = .ok (.getfield 12, 3) := by decide +kernel
theorem dX9_cancel_64 : decode cX9_cancel 64 = .ok (.getfield 106, 3) := by decide +kernel
theorem dX9_cancel_67 : decode cX9_cancel 67 = .ok (.invokevirtual 123, 3) := by decide +kernel
theorem dX9_cancel_70 : decode cX9_cancel 70 = .ok (.istore 4, 2) := by decide +kernel
theorem dX9_cancel_72 : decode cX9_cancel 72 = .ok (.aload_n 0, 1) := by decide +kernel
theorem dX9_cancel_73 : decode cX9_cancel 73 = .ok (.getfield 12, 3) := by decide +kernel
theorem dX9_cancel_76 : decode cX9_cancel 76 = .ok (.aload_n 2, 1) := by decide +kernel
theorem dX9_cancel_77 : decode cX9_cancel 77 = .ok (.invokevirtual 202, 3) := by decide +kernel
theorem dX9_cancel_80 : decode cX9_cancel 80 = .ok (.aload_n 2, 1) := by decide +kernel
theorem dX9_cancel_81 : decode cX9_cancel 81 = .ok (.getfield 100, 3) := by decide +kernel
theorem dX9_cancel_84 : decode cX9_cancel 84 = .ok (.iload_n 3, 1) := by decide +kernel
theorem dX9_cancel_85 : decode cX9_cancel 85 = .ok (.aload_n 0, 1) := by decide +kernel
theorem dX9_cancel_86 : decode cX9_cancel 86 = .ok (.getfield 12, 3) := by decide +kernel
theorem dX9_cancel_89 : decode cX9_cancel 89 = .ok (.getfield 106, 3) := by decide +kernel
theorem dX9_cancel_92 : decode cX9_cancel 92 = .ok (.invokevirtual 206, 3) := by decide +kernel
theorem dX9_cancel_95 : decode cX9_cancel 95 = .ok (.iload 4, 2) := by decide +kernel
theorem dX9_cancel_97 : decode cX9_cancel 97 = .ok (.ireturn, 1) := by decide +kernel
theorem dX9_blockers_0 : decode cX9_blockers 0 = .ok (.aload_n 0, 1) := by decide +kernel
theorem dX9_blockers_1 : decode cX9_blockers 1 = .ok (.iload_n 1, 1) := by decide +kernel
theorem dX9_blockers_2 : decode cX9_blockers 2 = .ok (.invokevirtual 93, 3) := by decide +kernel
theorem dX9_blockers_5 : decode cX9_blockers 5 = .ok (.iload_n 2, 1) := by decide +kernel
theorem dX9_blockers_6 : decode cX9_blockers 6 = .ok (.invokestatic 81, 3) := by decide +kernel
theorem dX9_blockers_9 : decode cX9_blockers 9 = .ok (.aload_n 0, 1) := by decide +kernel
theorem dX9_blockers_10 : decode cX9_blockers 10 = .ok (.getfield 12, 3) := by decide +kernel
theorem dX9_blockers_13 : decode cX9_blockers 13 = .ok (.iload_n 1, 1) := by decide +kernel
theorem dX9_blockers_14 : decode cX9_blockers 14 = .ok (.invokevirtual 209, 3) := by decide +kernel
theorem dX9_blockers_17 : decode cX9_blockers 17 = .ok (.ifCond .eq 7, 3) := by decide +kernel
theorem dX9_blockers_20 : decode cX9_blockers 20 = .ok (.iconst 0, 1) := by decide +kernel
theorem dX9_blockers_21 : decode cX9_blockers 21 = .ok (.goto 12, 3) := by decide +kernel
theorem dX9_blockers_24 : decode cX9_blockers 24 = .ok (.aload_n 0, 1) := by decide +kernel
theorem dX9_blockers_25 : decode cX9_blockers 25 = .ok (.getfield 27, 3) := by decide +kernel
theorem dX9_blockers_28 : decode cX9_blockers 28 = .ok (.iload_n 1, 1) := by decide +kernel
theorem dX9_blockers_29 : decode cX9_blockers 29 = .ok (.iload_n 2, 1) := by decide +kernel
theorem dX9_blockers_30 : decode cX9_blockers 30 = .ok (.invokevirtual 212, 3) := by decide +kernel
theorem dX9_blockers_33 : decode cX9_blockers 33 = .ok (.ireturn, 1) := by decide +kernel
theorem dX9_makeWay_0 : decode cX9_makeWay 0 = .ok (.aload_n 0, 1) := by decide +kernel
theorem dX9_makeWay_1 : decode cX9_makeWay 1 = .ok (.iload_n 1, 1) := by decide +kernel
theorem dX9_makeWay_2 : decode cX9_makeWay 2 = .ok (.invokevirtual 93, 3) := by decide +kernel
theorem dX9_makeWay_5 : decode cX9_makeWay 5 = .ok (.iload_n 2, 1) := by decide +kernel
theorem dX9_makeWay_6 : decode cX9_makeWay 6 = .ok (.invokestatic 81, 3) := by decide +kernel
theorem dX9_makeWay_9 : decode cX9_makeWay 9 = .ok (.aload_n 0, 1) := by decide +kernel
theorem dX9_makeWay_10 : decode cX9_makeWay 10 = .ok (.iload_n 1, 1) := by decide +kernel
theorem dX9_makeWay_11 : decode cX9_makeWay 11 = .ok (.invokevirtual 193, 3) := by decide +kernel
theorem dX9_makeWay_14 : decode cX9_makeWay 14 = .ok (.aload_n 0, 1) := by decide +kernel
theorem dX9_makeWay_15 : decode cX9_makeWay 15 = .ok (.getfield 27, 3) := by decide +kernel
theorem dX9_makeWay_18 : decode cX9_makeWay 18 = .ok (.iload_n 1, 1) := by decide +kernel
theorem dX9_makeWay_19 : decode cX9_makeWay 19 = .ok (.iload_n 2, 1) := by decide +kernel
theorem dX9_makeWay_20 : decode cX9_makeWay 20 = .ok (.invokevirtual 215, 3) := by decide +kernel
theorem dX9_makeWay_23 : decode cX9_makeWay 23 = .ok (.ifCond .eq 13, 3) := by decide +kernel
theorem dX9_makeWay_26 : decode cX9_makeWay 26 = .ok (.new 218, 3) := by decide +kernel
theorem dX9_makeWay_29 : decode cX9_makeWay 29 = .ok (.dup, 1) := by decide +kernel
theorem dX9_makeWay_30 : decode cX9_makeWay 30 = .ok (.ldc 220, 2) := by decide +kernel
theorem dX9_makeWay_32 : decode cX9_makeWay 32 = .ok (.invokespecial 222, 3) := by decide +kernel
theorem dX9_makeWay_35 : decode cX9_makeWay 35 = .ok (.athrow, 1) := by decide +kernel
theorem dX9_makeWay_36 : decode cX9_makeWay 36 = .ok (.aload_n 0, 1) := by decide +kernel
theorem dX9_makeWay_37 : decode cX9_makeWay 37 = .ok (.getfield 27, 3) := by decide +kernel
theorem dX9_makeWay_40 : decode cX9_makeWay 40 = .ok (.iload_n 1, 1) := by decide +kernel
theorem dX9_makeWay_41 : decode cX9_makeWay 41 = .ok (.iload_n 2, 1) := by decide +kernel
theorem dX9_makeWay_42 : decode cX9_makeWay 42 = .ok (.invokevirtual 223, 3) := by decide +kernel
theorem dX9_makeWay_45 : decode cX9_makeWay 45 = .ok (.istore_n 3, 1) := by decide +kernel
theorem dX9_makeWay_46 : decode cX9_makeWay 46 = .ok (.iload_n 3, 1) := by decide +kernel
theorem dX9_makeWay_47 : decode cX9_makeWay 47 = .ok (.ifCond .ge 13, 3) := by decide +kernel
theorem dX9_makeWay_50 : decode cX9_makeWay 50 = .ok (.new 152, 3) := by decide +kernel
theorem dX9_makeWay_53 : decode cX9_makeWay 53 = .ok (.dup, 1) := by decide +kernel
theorem dX9_makeWay_54 : decode cX9_makeWay 54 = .ok (.ldc 226, 2) := by decide +kernel
theorem dX9_makeWay_56 : decode cX9_makeWay 56 = .ok (.invokespecial 156, 3) := by decide +kernel
theorem dX9_makeWay_59 : decode cX9_makeWay 59 = .ok (.athrow, 1) := by decide +kernel
theorem dX9_makeWay_60 : decode cX9_makeWay 60 = .ok (.iload_n 3, 1) := by decide +kernel
theorem dX9_makeWay_61 : decode cX9_makeWay 61 = .ok (.ireturn, 1) := by decide +kernel
theorem dX9_planToCharger_0 : decode cX9_planToCharger 0 = .ok (.aload_n 0, 1) := by decide +kernel
theorem dX9_planToCharger_1 : decode cX9_planToCharger 1 = .ok (.iload_n 1, 1) := by decide +kernel
theorem dX9_planToCharger_2 : decode cX9_planToCharger 2 = .ok (.invokevirtual 93, 3) := by decide +kernel
theorem dX9_planToCharger_5 : decode cX9_planToCharger 5 = .ok (.aload_n 0, 1) := by decide +kernel
theorem dX9_planToCharger_6 : decode cX9_planToCharger 6 = .ok (.iload_n 1, 1) := by decide +kernel
theorem dX9_planToCharger_7 : decode cX9_planToCharger 7 = .ok (.invokevirtual 193, 3) := by decide +kernel
theorem dX9_planToCharger_10 : decode cX9_planToCharger 10 = .ok (.aload_n 0, 1) := by decide +kernel
theorem dX9_planToCharger_11 : decode cX9_planToCharger 11 = .ok (.getfield 27, 3) := by decide +kernel
theorem dX9_planToCharger_14 : decode cX9_planToCharger 14 = .ok (.iload_n 1, 1) := by decide +kernel
theorem dX9_planToCharger_15 : decode cX9_planToCharger 15 = .ok (.invokevirtual 228, 3) := by decide +kernel
theorem dX9_planToCharger_18 : decode cX9_planToCharger 18 = .ok (.istore_n 2, 1) := by decide +kernel
theorem dX9_planToCharger_19 : decode cX9_planToCharger 19 = .ok (.iload_n 2, 1) := by decide +kernel
theorem dX9_planToCharger_20 : decode cX9_planToCharger 20 = .ok (.ifCond .lt 15, 3) := by decide +kernel
theorem dX9_planToCharger_23 : decode cX9_planToCharger 23 = .ok (.aload_n 0, 1) := by decide +kernel
theorem dX9_planToCharger_24 : decode cX9_planToCharger 24 = .ok (.getfield 27, 3) := by decide +kernel
theorem dX9_planToCharger_27 : decode cX9_planToCharger 27 = .ok (.iload_n 1, 1) := by decide +kernel
theorem dX9_planToCharger_28 : decode cX9_planToCharger 28 = .ok (.iload_n 2, 1) := by decide +kernel
theorem dX9_planToCharger_29 : decode cX9_planToCharger 29 = .ok (.invokevirtual 231, 3) := by decide +kernel
theorem dX9_planToCharger_32 : decode cX9_planToCharger 32 = .ok (.ifCond .ne 13, 3) := by decide +kernel
theorem dX9_planToCharger_35 : decode cX9_planToCharger 35 = .ok (.new 152, 3) := by decide +kernel
theorem dX9_planToCharger_38 : decode cX9_planToCharger 38 = .ok (.dup, 1) := by decide +kernel
theorem dX9_planToCharger_39 : decode cX9_planToCharger 39 = .ok (.ldc 234, 2) := by decide +kernel
theorem dX9_planToCharger_41 : decode cX9_planToCharger 41 = .ok (.invokespecial 156, 3) := by decide +kernel
theorem dX9_planToCharger_44 : decode cX9_planToCharger 44 = .ok (.athrow, 1) := by decide +kernel
theorem dX9_planToCharger_45 : decode cX9_planToCharger 45 = .ok (.aload_n 0, 1) := by decide +kernel
theorem dX9_planToCharger_46 : decode cX9_planToCharger 46 = .ok (.getfield 27, 3) := by decide +kernel
theorem dX9_planToCharger_49 : decode cX9_planToCharger 49 = .ok (.iload_n 1, 1) := by decide +kernel
theorem dX9_planToCharger_50 : decode cX9_planToCharger 50 = .ok (.iconst (-1), 1) := by decide +kernel
theorem dX9_planToCharger_51 : decode cX9_planToCharger 51 = .ok (.invokevirtual 170, 3) := by decide +kernel
theorem dX9_planToCharger_54 : decode cX9_planToCharger 54 = .ok (.iload_n 2, 1) := by decide +kernel
theorem dX9_planToCharger_55 : decode cX9_planToCharger 55 = .ok (.ireturn, 1) := by decide +kernel
theorem dX9_addTask_0 : decode cX9_addTask 0 = .ok (.iload_n 1, 1) := by decide +kernel
theorem dX9_addTask_1 : decode cX9_addTask 1 = .ok (.invokestatic 81, 3) := by decide +kernel
theorem dX9_addTask_4 : decode cX9_addTask 4 = .ok (.iload_n 2, 1) := by decide +kernel
theorem dX9_addTask_5 : decode cX9_addTask 5 = .ok (.invokestatic 81, 3) := by decide +kernel
theorem dX9_addTask_8 : decode cX9_addTask 8 = .ok (.iload_n 1, 1) := by decide +kernel
theorem dX9_addTask_9 : decode cX9_addTask 9 = .ok (.iload_n 2, 1) := by decide +kernel
theorem dX9_addTask_10 : decode cX9_addTask 10 = .ok (.if_icmp .eq 21, 3) := by decide +kernel
theorem dX9_addTask_13 : decode cX9_addTask 13 = .ok (.iload_n 3, 1) := by decide +kernel
theorem dX9_addTask_14 : decode cX9_addTask 14 = .ok (.ifCond .lt 17, 3) := by decide +kernel
theorem dX9_addTask_17 : decode cX9_addTask 17 = .ok (.iload 4, 2) := by decide +kernel
theorem dX9_addTask_19 : decode cX9_addTask 19 = .ok (.sipush 1000, 3) := by decide +kernel
theorem dX9_addTask_22 : decode cX9_addTask 22 = .ok (.if_icmp .gt 9, 3) := by decide +kernel
theorem dX9_addTask_25 : decode cX9_addTask 25 = .ok (.iload_n 3, 1) := by decide +kernel
theorem dX9_addTask_26 : decode cX9_addTask 26 = .ok (.iload 4, 2) := by decide +kernel
theorem dX9_addTask_28 : decode cX9_addTask 28 = .ok (.if_icmp .le 13, 3) := by decide +kernel
theorem dX9_addTask_31 : decode cX9_addTask 31 = .ok (.new 132, 3) := by decide +kernel
theorem dX9_addTask_34 : decode cX9_addTask 34 = .ok (.dup, 1) := by decide +kernel
theorem dX9_addTask_35 : decode cX9_addTask 35 = .ok (.ldc 236, 2) := by decide +kernel
theorem dX9_addTask_37 : decode cX9_addTask 37 = .ok (.invokespecial 136, 3) := by decide +kernel
theorem dX9_addTask_40 : decode cX9_addTask 40 = .ok (.athrow, 1) := by decide +kernel
theorem dX9_addTask_41 : decode cX9_addTask 41 = .ok (.aload_n 0, 1) := by decide +kernel
theorem dX9_addTask_42 : decode cX9_addTask 42 = .ok (.getfield 12, 3) := by decide +kernel
theorem dX9_addTask_45 : decode cX9_addTask 45 = .ok (.getfield 139, 3) := by decide +kernel
theorem dX9_addTask_48 : decode cX9_addTask 48 = .ok (.bipush 12, 2) := by decide +kernel
theorem dX9_addTask_50 : decode cX9_addTask 50 = .ok (.if_icmp .lt 13, 3) := by decide +kernel
theorem dX9_addTask_53 : decode cX9_addTask 53 = .ok (.new 218, 3) := by decide +kernel
theorem dX9_addTask_56 : decode cX9_addTask 56 = .ok (.dup, 1) := by decide +kernel
theorem dX9_addTask_57 : decode cX9_addTask 57 = .ok (.ldc 238, 2) := by decide +kernel
theorem dX9_addTask_59 : decode cX9_addTask 59 = .ok (.invokespecial 222, 3) := by decide +kernel
theorem dX9_addTask_62 : decode cX9_addTask 62 = .ok (.athrow, 1) := by decide +kernel
theorem dX9_addTask_63 : decode cX9_addTask 63 = .ok (.aload_n 0, 1) := by decide +kernel
theorem dX9_addTask_64 : decode cX9_addTask 64 = .ok (.getfield 12, 3) := by decide +kernel
theorem dX9_addTask_67 : decode cX9_addTask 67 = .ok (.aload_n 0, 1) := by decide +kernel
theorem dX9_addTask_68 : decode cX9_addTask 68 = .ok (.getfield 12, 3) := by decide +kernel
theorem dX9_addTask_71 : decode cX9_addTask 71 = .ok (.getfield 139, 3) := by decide +kernel
theorem dX9_addTask_74 : decode cX9_addTask 74 = .ok (.invokevirtual 240, 3) := by decide +kernel
theorem dX9_addTask_77 : decode cX9_addTask 77 = .ok (.iload_n 1, 1) := by decide +kernel
theorem dX9_addTask_78 : decode cX9_addTask 78 = .ok (.iload_n 2, 1) := by decide +kernel
theorem dX9_addTask_79 : decode cX9_addTask 79 = .ok (.iload_n 3, 1) := by decide +kernel
theorem dX9_addTask_80 : decode cX9_addTask 80 = .ok (.iload 4, 2) := by decide +kernel
theorem dX9_addTask_82 : decode cX9_addTask 82 = .ok (.aload_n 0, 1) := by decide +kernel
theorem dX9_addTask_83 : decode cX9_addTask 83 = .ok (.getfield 12, 3) := by decide +kernel
theorem dX9_addTask_86 : decode cX9_addTask 86 = .ok (.getfield 106, 3) := by decide +kernel
theorem dX9_addTask_89 : decode cX9_addTask 89 = .ok (.invokevirtual 244, 3) := by decide +kernel
theorem dX9_addTask_92 : decode cX9_addTask 92 = .ok (.aload_n 0, 1) := by decide +kernel
theorem dX9_addTask_93 : decode cX9_addTask 93 = .ok (.getfield 12, 3) := by decide +kernel
theorem dX9_addTask_96 : decode cX9_addTask 96 = .ok (.dup, 1) := by decide +kernel
theorem dX9_addTask_97 : decode cX9_addTask 97 = .ok (.getfield 139, 3) := by decide +kernel
theorem dX9_addTask_100 : decode cX9_addTask 100 = .ok (.iconst 1, 1) := by decide +kernel
theorem dX9_addTask_101 : decode cX9_addTask 101 = .ok (.iadd, 1) := by decide +kernel
theorem dX9_addTask_102 : decode cX9_addTask 102 = .ok (.putfield 139, 3) := by decide +kernel
theorem dX9_addTask_105 : decode cX9_addTask 105 = .ok (.aload_n 0, 1) := by decide +kernel
theorem dX9_addTask_106 : decode cX9_addTask 106 = .ok (.getfield 12, 3) := by decide +kernel
theorem dX9_addTask_109 : decode cX9_addTask 109 = .ok (.getfield 139, 3) := by decide +kernel
theorem dX9_addTask_112 : decode cX9_addTask 112 = .ok (.iconst 1, 1) := by decide +kernel
theorem dX9_addTask_113 : decode cX9_addTask 113 = .ok (.isub, 1) := by decide +kernel
theorem dX9_addTask_114 : decode cX9_addTask 114 = .ok (.ireturn, 1) := by decide +kernel
theorem dX9_serve_0 : decode cX9_serve 0 = .ok (.aload_n 0, 1) := by decide +kernel
theorem dX9_serve_1 : decode cX9_serve 1 = .ok (.iload_n 1, 1) := by decide +kernel
theorem dX9_serve_2 : decode cX9_serve 2 = .ok (.invokevirtual 250, 3) := by decide +kernel
theorem dX9_serve_5 : decode cX9_serve 5 = .ok (.aload_n 0, 1) := by decide +kernel
theorem dX9_serve_6 : decode cX9_serve 6 = .ok (.iload_n 2, 1) := by decide +kernel
theorem dX9_serve_7 : decode cX9_serve 7 = .ok (.invokevirtual 93, 3) := by decide +kernel
theorem dX9_serve_10 : decode cX9_serve 10 = .ok (.aload_n 0, 1) := by decide +kernel
theorem dX9_serve_11 : decode cX9_serve 11 = .ok (.iload_n 1, 1) := by decide +kernel
theorem dX9_serve_12 : decode cX9_serve 12 = .ok (.invokevirtual 253, 3) := by decide +kernel
theorem dX9_serve_15 : decode cX9_serve 15 = .ok (.aload_n 0, 1) := by decide +kernel
theorem dX9_serve_16 : decode cX9_serve 16 = .ok (.getfield 27, 3) := by decide +kernel
theorem dX9_serve_19 : decode cX9_serve 19 = .ok (.iload_n 1, 1) := by decide +kernel
theorem dX9_serve_20 : decode cX9_serve 20 = .ok (.iload_n 2, 1) := by decide +kernel
theorem dX9_serve_21 : decode cX9_serve 21 = .ok (.invokevirtual 256, 3) := by decide +kernel
theorem dX9_serve_24 : decode cX9_serve 24 = .ok (.ireturn, 1) := by decide +kernel
theorem dX9_bestRobot_0 : decode cX9_bestRobot 0 = .ok (.aload_n 0, 1) := by decide +kernel
theorem dX9_bestRobot_1 : decode cX9_bestRobot 1 = .ok (.iload_n 1, 1) := by decide +kernel
theorem dX9_bestRobot_2 : decode cX9_bestRobot 2 = .ok (.invokevirtual 250, 3) := by decide +kernel
theorem dX9_bestRobot_5 : decode cX9_bestRobot 5 = .ok (.aload_n 0, 1) := by decide +kernel
theorem dX9_bestRobot_6 : decode cX9_bestRobot 6 = .ok (.iload_n 1, 1) := by decide +kernel
theorem dX9_bestRobot_7 : decode cX9_bestRobot 7 = .ok (.invokevirtual 253, 3) := by decide +kernel
theorem dX9_bestRobot_10 : decode cX9_bestRobot 10 = .ok (.aload_n 0, 1) := by decide +kernel
theorem dX9_bestRobot_11 : decode cX9_bestRobot 11 = .ok (.getfield 27, 3) := by decide +kernel
theorem dX9_bestRobot_14 : decode cX9_bestRobot 14 = .ok (.iload_n 1, 1) := by decide +kernel
theorem dX9_bestRobot_15 : decode cX9_bestRobot 15 = .ok (.iconst 0, 1) := by decide +kernel
theorem dX9_bestRobot_16 : decode cX9_bestRobot 16 = .ok (.invokevirtual 259, 3) := by decide +kernel
theorem dX9_bestRobot_19 : decode cX9_bestRobot 19 = .ok (.istore_n 2, 1) := by decide +kernel
theorem dX9_bestRobot_20 : decode cX9_bestRobot 20 = .ok (.iload_n 2, 1) := by decide +kernel
theorem dX9_bestRobot_21 : decode cX9_bestRobot 21 = .ok (.ifCond .ge 14, 3) := by decide +kernel
theorem dX9_bestRobot_24 : decode cX9_bestRobot 24 = .ok (.new 152, 3) := by decide +kernel
theorem dX9_bestRobot_27 : decode cX9_bestRobot 27 = .ok (.dup, 1) := by decide +kernel
theorem dX9_bestRobot_28 : decode cX9_bestRobot 28 = .ok (.ldc_w 263, 3) := by decide +kernel
theorem dX9_bestRobot_31 : decode cX9_bestRobot 31 = .ok (.invokespecial 156, 3) := by decide +kernel
theorem dX9_bestRobot_34 : decode cX9_bestRobot 34 = .ok (.athrow, 1) := by decide +kernel
theorem dX9_bestRobot_35 : decode cX9_bestRobot 35 = .ok (.iload_n 2, 1) := by decide +kernel
theorem dX9_bestRobot_36 : decode cX9_bestRobot 36 = .ok (.ireturn, 1) := by decide +kernel
theorem dX9_task_0 : decode cX9_task 0 = .ok (.aload_n 0, 1) := by decide +kernel
theorem dX9_task_1 : decode cX9_task 1 = .ok (.iload_n 1, 1) := by decide +kernel
theorem dX9_task_2 : decode cX9_task 2 = .ok (.invokevirtual 250, 3) := by decide +kernel
theorem dX9_task_5 : decode cX9_task 5 = .ok (.aload_n 0, 1) := by decide +kernel
theorem dX9_task_6 : decode cX9_task 6 = .ok (.getfield 12, 3) := by decide +kernel
theorem dX9_task_9 : decode cX9_task 9 = .ok (.iload_n 1, 1) := by decide +kernel
theorem dX9_task_10 : decode cX9_task 10 = .ok (.invokevirtual 240, 3) := by decide +kernel
theorem dX9_task_13 : decode cX9_task 13 = .ok (.astore_n 3, 1) := by decide +kernel
theorem dX9_task_14 : decode cX9_task 14 = .ok (.iload_n 2, 1) := by decide +kernel
theorem dX9_task_15 : decode cX9_task 15 = .ok (.tableswitch 85 0 7 #[45, 50, 55, 60, 65, 70, 75, 80], 45) := by decide +kernel
theorem dX9_task_60 : decode cX9_task 60 = .ok (.aload_n 3, 1) := by decide +kernel
theorem dX9_task_61 : decode cX9_task 61 = .ok (.getfield 265, 3) := by decide +kernel
theorem dX9_task_64 : decode cX9_task 64 = .ok (.ireturn, 1) := by decide +kernel
theorem dX9_task_65 : decode cX9_task 65 = .ok (.aload_n 3, 1) := by decide +kernel
theorem dX9_task_66 : decode cX9_task 66 = .ok (.getfield 268, 3) := by decide +kernel
theorem dX9_task_69 : decode cX9_task 69 = .ok (.ireturn, 1) := by decide +kernel
theorem dX9_task_70 : decode cX9_task 70 = .ok (.aload_n 3, 1) := by decide +kernel
theorem dX9_task_71 : decode cX9_task 71 = .ok (.getfield 271, 3) := by decide +kernel
theorem dX9_task_74 : decode cX9_task 74 = .ok (.ireturn, 1) := by decide +kernel
theorem dX9_task_75 : decode cX9_task 75 = .ok (.aload_n 3, 1) := by decide +kernel
theorem dX9_task_76 : decode cX9_task 76 = .ok (.getfield 274, 3) := by decide +kernel
theorem dX9_task_79 : decode cX9_task 79 = .ok (.ireturn, 1) := by decide +kernel
theorem dX9_task_80 : decode cX9_task 80 = .ok (.aload_n 3, 1) := by decide +kernel
theorem dX9_task_81 : decode cX9_task 81 = .ok (.getfield 277, 3) := by decide +kernel
theorem dX9_task_84 : decode cX9_task 84 = .ok (.ireturn, 1) := by decide +kernel
theorem dX9_task_85 : decode cX9_task 85 = .ok (.aload_n 3, 1) := by decide +kernel
theorem dX9_task_86 : decode cX9_task 86 = .ok (.getfield 280, 3) := by decide +kernel
theorem dX9_task_89 : decode cX9_task 89 = .ok (.ireturn, 1) := by decide +kernel
theorem dX9_task_90 : decode cX9_task 90 = .ok (.aload_n 3, 1) := by decide +kernel
theorem dX9_task_91 : decode cX9_task 91 = .ok (.getfield 283, 3) := by decide +kernel
theorem dX9_task_94 : decode cX9_task 94 = .ok (.ireturn, 1) := by decide +kernel
theorem dX9_task_95 : decode cX9_task 95 = .ok (.aload_n 3, 1) := by decide +kernel
theorem dX9_task_96 : decode cX9_task 96 = .ok (.getfield 286, 3) := by decide +kernel
theorem dX9_task_99 : decode cX9_task 99 = .ok (.ireturn, 1) := by decide +kernel
theorem dX9_task_100 : decode cX9_task 100 = .ok (.new 132, 3) := by decide +kernel
theorem dX9_task_103 : decode cX9_task 103 = .ok (.dup, 1) := by decide +kernel
theorem dX9_task_104 : decode cX9_task 104 = .ok (.ldc_w 289, 3) := by decide +kernel
theorem dX9_task_107 : decode cX9_task 107 = .ok (.invokespecial 136, 3) := by decide +kernel
theorem dX9_task_110 : decode cX9_task 110 = .ok (.athrow, 1) := by decide +kernel
theorem dX9_assignAll_0 : decode cX9_assignAll 0 = .ok (.aload_n 0, 1) := by decide +kernel
theorem dX9_assignAll_1 : decode cX9_assignAll 1 = .ok (.getfield 27, 3) := by decide +kernel
theorem dX9_assignAll_4 : decode cX9_assignAll 4 = .ok (.invokevirtual 291, 3) := by decide +kernel
theorem dX9_assignAll_7 : decode cX9_assignAll 7 = .ok (.ireturn, 1) := by decide +kernel
theorem dX9_tasksIn_0 : decode cX9_tasksIn 0 = .ok (.iload_n 1, 1) := by decide +kernel
theorem dX9_tasksIn_1 : decode cX9_tasksIn 1 = .ok (.ifCond .lt 8, 3) := by decide +kernel
theorem dX9_tasksIn_4 : decode cX9_tasksIn 4 = .ok (.iload_n 1, 1) := by decide +kernel
theorem dX9_tasksIn_5 : decode cX9_tasksIn 5 = .ok (.iconst 3, 1) := by decide +kernel
theorem dX9_tasksIn_6 : decode cX9_tasksIn 6 = .ok (.if_icmp .le 14, 3) := by decide +kernel
theorem dX9_tasksIn_9 : decode cX9_tasksIn 9 = .ok (.new 132, 3) := by decide +kernel
theorem dX9_tasksIn_12 : decode cX9_tasksIn 12 = .ok (.dup, 1) := by decide +kernel
theorem dX9_tasksIn_13 : decode cX9_tasksIn 13 = .ok (.ldc_w 295, 3) := by decide +kernel
theorem dX9_tasksIn_16 : decode cX9_tasksIn 16 = .ok (.invokespecial 136, 3) := by decide +kernel
theorem dX9_tasksIn_19 : decode cX9_tasksIn 19 = .ok (.athrow, 1) := by decide +kernel
theorem dX9_tasksIn_20 : decode cX9_tasksIn 20 = .ok (.iconst 0, 1) := by decide +kernel
theorem dX9_tasksIn_21 : decode cX9_tasksIn 21 = .ok (.istore_n 2, 1) := by decide +kernel
theorem dX9_tasksIn_22 : decode cX9_tasksIn 22 = .ok (.iconst 0, 1) := by decide +kernel
theorem dX9_tasksIn_23 : decode cX9_tasksIn 23 = .ok (.istore_n 3, 1) := by decide +kernel
theorem dX9_tasksIn_24 : decode cX9_tasksIn 24 = .ok (.iload_n 3, 1) := by decide +kernel
theorem dX9_tasksIn_25 : decode cX9_tasksIn 25 = .ok (.aload_n 0, 1) := by decide +kernel
theorem dX9_tasksIn_26 : decode cX9_tasksIn 26 = .ok (.getfield 12, 3) := by decide +kernel
theorem dX9_tasksIn_29 : decode cX9_tasksIn 29 = .ok (.getfield 139, 3) := by decide +kernel
theorem dX9_tasksIn_32 : decode cX9_tasksIn 32 = .ok (.if_icmp .ge 27, 3) := by decide +kernel
theorem dX9_tasksIn_35 : decode cX9_tasksIn 35 = .ok (.aload_n 0, 1) := by decide +kernel
theorem dX9_tasksIn_36 : decode cX9_tasksIn 36 = .ok (.getfield 12, 3) := by decide +kernel
theorem dX9_tasksIn_39 : decode cX9_tasksIn 39 = .ok (.iload_n 3, 1) := by decide +kernel
theorem dX9_tasksIn_40 : decode cX9_tasksIn 40 = .ok (.invokevirtual 240, 3) := by decide +kernel
theorem dX9_tasksIn_43 : decode cX9_tasksIn 43 = .ok (.getfield 265, 3) := by decide +kernel
theorem dX9_tasksIn_46 : decode cX9_tasksIn 46 = .ok (.iload_n 1, 1) := by decide +kernel
theorem dX9_tasksIn_47 : decode cX9_tasksIn 47 = .ok (.if_icmp .ne 6, 3) := by decide +kernel
theorem dX9_tasksIn_50 : decode cX9_tasksIn 50 = .ok (.iinc 2 1, 3) := by decide +kernel
theorem dX9_tasksIn_53 : decode cX9_tasksIn 53 = .ok (.iinc 3 1, 3) := by decide +kernel
theorem dX9_tasksIn_56 : decode cX9_tasksIn 56 = .ok (.goto (-32), 3) := by decide +kernel
theorem dX9_tasksIn_59 : decode cX9_tasksIn 59 = .ok (.iload_n 2, 1) := by decide +kernel
theorem dX9_tasksIn_60 : decode cX9_tasksIn 60 = .ok (.ireturn, 1) := by decide +kernel
theorem dX9_advance_0 : decode cX9_advance 0 = .ok (.iload_n 1, 1) := by decide +kernel
theorem dX9_advance_1 : decode cX9_advance 1 = .ok (.iconst 1, 1) := by decide +kernel
theorem dX9_advance_2 : decode cX9_advance 2 = .ok (.invokestatic 187, 3) := by decide +kernel
theorem dX9_advance_5 : decode cX9_advance 5 = .ok (.aload_n 0, 1) := by decide +kernel
theorem dX9_advance_6 : decode cX9_advance 6 = .ok (.getfield 12, 3) := by decide +kernel
theorem dX9_advance_9 : decode cX9_advance 9 = .ok (.getfield 106, 3) := by decide +kernel
theorem dX9_advance_12 : decode cX9_advance 12 = .ok (.iload_n 1, 1) := by decide +kernel
theorem dX9_advance_13 : decode cX9_advance 13 = .ok (.iadd, 1) := by decide +kernel
theorem dX9_advance_14 : decode cX9_advance 14 = .ok (.sipush 1000, 3) := by decide +kernel
theorem dX9_advance_17 : decode cX9_advance 17 = .ok (.if_icmp .le 14, 3) := by decide +kernel
theorem dX9_advance_20 : decode cX9_advance 20 = .ok (.new 218, 3) := by decide +kernel
theorem dX9_advance_23 : decode cX9_advance 23 = .ok (.dup, 1) := by decide +kernel
theorem dX9_advance_24 : decode cX9_advance 24 = .ok (.ldc_w 297, 3) := by decide +kernel
theorem dX9_advance_27 : decode cX9_advance 27 = .ok (.invokespecial 222, 3) := by decide +kernel
theorem dX9_advance_30 : decode cX9_advance 30 = .ok (.athrow, 1) := by decide +kernel
theorem dX9_advance_31 : decode cX9_advance 31 = .ok (.iconst 0, 1) := by decide +kernel
theorem dX9_advance_32 : decode cX9_advance 32 = .ok (.istore_n 2, 1) := by decide +kernel
theorem dX9_advance_33 : decode cX9_advance 33 = .ok (.iconst 0, 1) := by decide +kernel
theorem dX9_advance_34 : decode cX9_advance 34 = .ok (.istore_n 3, 1) := by decide +kernel
theorem dX9_advance_35 : decode cX9_advance 35 = .ok (.iload_n 3, 1) := by decide +kernel
theorem dX9_advance_36 : decode cX9_advance 36 = .ok (.iload_n 1, 1) := by decide +kernel
theorem dX9_advance_37 : decode cX9_advance 37 = .ok (.if_icmp .ge 19, 3) := by decide +kernel
theorem dX9_advance_40 : decode cX9_advance 40 = .ok (.iload_n 2, 1) := by decide +kernel
theorem dX9_advance_41 : decode cX9_advance 41 = .ok (.aload_n 0, 1) := by decide +kernel
theorem dX9_advance_42 : decode cX9_advance 42 = .ok (.getfield 12, 3) := by decide +kernel
theorem dX9_advance_45 : decode cX9_advance 45 = .ok (.invokevirtual 299, 3) := by decide +kernel
theorem dX9_advance_48 : decode cX9_advance 48 = .ok (.iadd, 1) := by decide +kernel
theorem dX9_advance_49 : decode cX9_advance 49 = .ok (.istore_n 2, 1) := by decide +kernel
theorem dX9_advance_50 : decode cX9_advance 50 = .ok (.iinc 3 1, 3) := by decide +kernel
theorem dX9_advance_53 : decode cX9_advance 53 = .ok (.goto (-18), 3) := by decide +kernel
theorem dX9_advance_56 : decode cX9_advance 56 = .ok (.iload_n 2, 1) := by decide +kernel
theorem dX9_advance_57 : decode cX9_advance 57 = .ok (.ireturn, 1) := by decide +kernel
theorem dX9_statistic_0 : decode cX9_statistic 0 = .ok (.aload_n 0, 1) := by decide +kernel
theorem dX9_statistic_1 : decode cX9_statistic 1 = .ok (.iload_n 1, 1) := by decide +kernel
theorem dX9_statistic_2 : decode cX9_statistic 2 = .ok (.invokevirtual 93, 3) := by decide +kernel
theorem dX9_statistic_5 : decode cX9_statistic 5 = .ok (.iload_n 2, 1) := by decide +kernel
theorem dX9_statistic_6 : decode cX9_statistic 6 = .ok (.ifCond .lt 8, 3) := by decide +kernel
theorem dX9_statistic_9 : decode cX9_statistic 9 = .ok (.iload_n 2, 1) := by decide +kernel
theorem dX9_statistic_10 : decode cX9_statistic 10 = .ok (.iconst 5, 1) := by decide +kernel
theorem dX9_statistic_11 : decode cX9_statistic 11 = .ok (.if_icmp .lt 14, 3) := by decide +kernel
theorem dX9_statistic_14 : decode cX9_statistic 14 = .ok (.new 132, 3) := by decide +kernel
theorem dX9_statistic_17 : decode cX9_statistic 17 = .ok (.dup, 1) := by decide +kernel
theorem dX9_statistic_18 : decode cX9_statistic 18 = .ok (.ldc_w 302, 3) := by decide +kernel
theorem dX9_statistic_21 : decode cX9_statistic 21 = .ok (.invokespecial 136, 3) := by decide +kernel
theorem dX9_statistic_24 : decode cX9_statistic 24 = .ok (.athrow, 1) := by decide +kernel
theorem dX9_statistic_25 : decode cX9_statistic 25 = .ok (.aload_n 0, 1) := by decide +kernel
theorem dX9_statistic_26 : decode cX9_statistic 26 = .ok (.getfield 12, 3) := by decide +kernel
