theorem dX5_init_0 : decode cX5_init 0 = .ok (.aload_n 0, 1) := by decide +kernel
theorem dX5_init_1 : decode cX5_init 1 = .ok (.invokespecial 3, 3) := by decide +kernel
theorem dX5_init_4 : decode cX5_init 4 = .ok (.aload_n 0, 1) := by decide +kernel
theorem dX5_init_5 : decode cX5_init 5 = .ok (.new 9, 3) := by decide +kernel
theorem dX5_init_8 : decode cX5_init 8 = .ok (.dup, 1) := by decide +kernel
theorem dX5_init_9 : decode cX5_init 9 = .ok (.invokespecial 11, 3) := by decide +kernel
theorem dX5_init_12 : decode cX5_init 12 = .ok (.putfield 12, 3) := by decide +kernel
theorem dX5_init_15 : decode cX5_init 15 = .ok (.aload_n 0, 1) := by decide +kernel
theorem dX5_init_16 : decode cX5_init 16 = .ok (.new 16, 3) := by decide +kernel
theorem dX5_init_19 : decode cX5_init 19 = .ok (.dup, 1) := by decide +kernel
theorem dX5_init_20 : decode cX5_init 20 = .ok (.invokespecial 18, 3) := by decide +kernel
theorem dX5_init_23 : decode cX5_init 23 = .ok (.putfield 19, 3) := by decide +kernel
theorem dX5_init_26 : decode cX5_init 26 = .ok (.aload_n 0, 1) := by decide +kernel
theorem dX5_init_27 : decode cX5_init 27 = .ok (.iconst 2, 1) := by decide +kernel
theorem dX5_init_28 : decode cX5_init 28 = .ok (.anewarray 9, 3) := by decide +kernel
theorem dX5_init_31 : decode cX5_init 31 = .ok (.putfield 23, 3) := by decide +kernel
theorem dX5_init_34 : decode cX5_init 34 = .ok (.aload_n 0, 1) := by decide +kernel
theorem dX5_init_35 : decode cX5_init 35 = .ok (.iconst 2, 1) := by decide +kernel
theorem dX5_init_36 : decode cX5_init 36 = .ok (.newarray .boolean, 2) := by decide +kernel
theorem dX5_init_38 : decode cX5_init 38 = .ok (.putfield 27, 3) := by decide +kernel
theorem dX5_init_41 : decode cX5_init 41 = .ok (.aload_n 0, 1) := by decide +kernel
theorem dX5_init_42 : decode cX5_init 42 = .ok (.new 31, 3) := by decide +kernel
theorem dX5_init_45 : decode cX5_init 45 = .ok (.dup, 1) := by decide +kernel
theorem dX5_init_46 : decode cX5_init 46 = .ok (.invokespecial 33, 3) := by decide +kernel
theorem dX5_init_49 : decode cX5_init 49 = .ok (.putfield 34, 3) := by decide +kernel
theorem dX5_init_52 : decode cX5_init 52 = .ok (.aload_n 0, 1) := by decide +kernel
theorem dX5_init_53 : decode cX5_init 53 = .ok (.new 38, 3) := by decide +kernel
theorem dX5_init_56 : decode cX5_init 56 = .ok (.dup, 1) := by decide +kernel
theorem dX5_init_57 : decode cX5_init 57 = .ok (.invokespecial 40, 3) := by decide +kernel
theorem dX5_init_60 : decode cX5_init 60 = .ok (.putfield 41, 3) := by decide +kernel
theorem dX5_init_63 : decode cX5_init 63 = .ok (.iconst 0, 1) := by decide +kernel
theorem dX5_init_64 : decode cX5_init 64 = .ok (.istore_n 1, 1) := by decide +kernel
theorem dX5_init_65 : decode cX5_init 65 = .ok (.iload_n 1, 1) := by decide +kernel
theorem dX5_init_66 : decode cX5_init 66 = .ok (.iconst 2, 1) := by decide +kernel
theorem dX5_init_67 : decode cX5_init 67 = .ok (.if_icmp .ge 22, 3) := by decide +kernel
theorem dX5_init_70 : decode cX5_init 70 = .ok (.aload_n 0, 1) := by decide +kernel
theorem dX5_init_71 : decode cX5_init 71 = .ok (.getfield 23, 3) := by decide +kernel
theorem dX5_init_74 : decode cX5_init 74 = .ok (.iload_n 1, 1) := by decide +kernel
theorem dX5_init_75 : decode cX5_init 75 = .ok (.new 9, 3) := by decide +kernel
theorem dX5_init_78 : decode cX5_init 78 = .ok (.dup, 1) := by decide +kernel
theorem dX5_init_79 : decode cX5_init 79 = .ok (.invokespecial 11, 3) := by decide +kernel
theorem dX5_init_82 : decode cX5_init 82 = .ok (.aastore, 1) := by decide +kernel
theorem dX5_init_83 : decode cX5_init 83 = .ok (.iinc 1 1, 3) := by decide +kernel
theorem dX5_init_86 : decode cX5_init 86 = .ok (.goto (-21), 3) := by decide +kernel
theorem dX5_init_89 : decode cX5_init 89 = .ok (.return_, 1) := by decide +kernel
theorem dX5_hears_0 : decode cX5_hears 0 = .ok (.iload_n 1, 1) := by decide +kernel
theorem dX5_hears_1 : decode cX5_hears 1 = .ok (.ifCond .lt 9, 3) := by decide +kernel
theorem dX5_hears_4 : decode cX5_hears 4 = .ok (.iload_n 1, 1) := by decide +kernel
theorem dX5_hears_5 : decode cX5_hears 5 = .ok (.bipush 30, 2) := by decide +kernel
theorem dX5_hears_7 : decode cX5_hears 7 = .ok (.if_icmp .le 5, 3) := by decide +kernel
theorem dX5_hears_10 : decode cX5_hears 10 = .ok (.iconst (-1), 1) := by decide +kernel
theorem dX5_hears_11 : decode cX5_hears 11 = .ok (.ireturn, 1) := by decide +kernel
theorem dX5_hears_12 : decode cX5_hears 12 = .ok (.aload_n 0, 1) := by decide +kernel
theorem dX5_hears_13 : decode cX5_hears 13 = .ok (.getfield 12, 3) := by decide +kernel
theorem dX5_hears_16 : decode cX5_hears 16 = .ok (.getfield 45, 3) := by decide +kernel
theorem dX5_hears_19 : decode cX5_hears 19 = .ok (.bipush 120, 2) := by decide +kernel
theorem dX5_hears_21 : decode cX5_hears 21 = .ok (.if_icmp .lt 6, 3) := by decide +kernel
theorem dX5_hears_24 : decode cX5_hears 24 = .ok (.bipush (-3), 2) := by decide +kernel
theorem dX5_hears_26 : decode cX5_hears 26 = .ok (.ireturn, 1) := by decide +kernel
theorem dX5_hears_27 : decode cX5_hears 27 = .ok (.aload_n 0, 1) := by decide +kernel
theorem dX5_hears_28 : decode cX5_hears 28 = .ok (.getfield 19, 3) := by decide +kernel
theorem dX5_hears_31 : decode cX5_hears 31 = .ok (.aload_n 0, 1) := by decide +kernel
theorem dX5_hears_32 : decode cX5_hears 32 = .ok (.getfield 12, 3) := by decide +kernel
theorem dX5_hears_35 : decode cX5_hears 35 = .ok (.invokevirtual 49, 3) := by decide +kernel
theorem dX5_hears_38 : decode cX5_hears 38 = .ok (.aload_n 0, 1) := by decide +kernel
theorem dX5_hears_39 : decode cX5_hears 39 = .ok (.getfield 12, 3) := by decide +kernel
theorem dX5_hears_42 : decode cX5_hears 42 = .ok (.iload_n 1, 1) := by decide +kernel
theorem dX5_hears_43 : decode cX5_hears 43 = .ok (.invokestatic 53, 3) := by decide +kernel
theorem dX5_hears_46 : decode cX5_hears 46 = .ok (.invokevirtual 57, 3) := by decide +kernel
theorem dX5_hears_49 : decode cX5_hears 49 = .ok (.aload_n 0, 1) := by decide +kernel
theorem dX5_hears_50 : decode cX5_hears 50 = .ok (.invokevirtual 61, 3) := by decide +kernel
theorem dX5_hears_53 : decode cX5_hears 53 = .ok (.aload_n 0, 1) := by decide +kernel
theorem dX5_hears_54 : decode cX5_hears 54 = .ok (.getfield 12, 3) := by decide +kernel
theorem dX5_hears_57 : decode cX5_hears 57 = .ok (.getfield 45, 3) := by decide +kernel
theorem dX5_hears_60 : decode cX5_hears 60 = .ok (.ireturn, 1) := by decide +kernel
theorem dX5_frames_0 : decode cX5_frames 0 = .ok (.iload_n 1, 1) := by decide +kernel
theorem dX5_frames_1 : decode cX5_frames 1 = .ok (.ifCond .lt 19, 3) := by decide +kernel
theorem dX5_frames_4 : decode cX5_frames 4 = .ok (.iload_n 1, 1) := by decide +kernel
theorem dX5_frames_5 : decode cX5_frames 5 = .ok (.ldc 64, 2) := by decide +kernel
theorem dX5_frames_7 : decode cX5_frames 7 = .ok (.if_icmp .gt 13, 3) := by decide +kernel
theorem dX5_frames_10 : decode cX5_frames 10 = .ok (.iload_n 2, 1) := by decide +kernel
theorem dX5_frames_11 : decode cX5_frames 11 = .ok (.ifCond .lt 9, 3) := by decide +kernel
theorem dX5_frames_14 : decode cX5_frames 14 = .ok (.iload_n 2, 1) := by decide +kernel
theorem dX5_frames_15 : decode cX5_frames 15 = .ok (.ldc 64, 2) := by decide +kernel
theorem dX5_frames_17 : decode cX5_frames 17 = .ok (.if_icmp .le 5, 3) := by decide +kernel
theorem dX5_frames_20 : decode cX5_frames 20 = .ok (.iconst (-1), 1) := by decide +kernel
theorem dX5_frames_21 : decode cX5_frames 21 = .ok (.ireturn, 1) := by decide +kernel
theorem dX5_frames_22 : decode cX5_frames 22 = .ok (.aload_n 0, 1) := by decide +kernel
theorem dX5_frames_23 : decode cX5_frames 23 = .ok (.getfield 12, 3) := by decide +kernel
theorem dX5_frames_26 : decode cX5_frames 26 = .ok (.getfield 45, 3) := by decide +kernel
theorem dX5_frames_29 : decode cX5_frames 29 = .ok (.bipush 20, 2) := by decide +kernel
theorem dX5_frames_31 : decode cX5_frames 31 = .ok (.iadd, 1) := by decide +kernel
theorem dX5_frames_32 : decode cX5_frames 32 = .ok (.bipush 120, 2) := by decide +kernel
theorem dX5_frames_34 : decode cX5_frames 34 = .ok (.if_icmp .le 6, 3) := by decide +kernel
theorem dX5_frames_37 : decode cX5_frames 37 = .ok (.bipush (-3), 2) := by decide +kernel
theorem dX5_frames_39 : decode cX5_frames 39 = .ok (.ireturn, 1) := by decide +kernel
theorem dX5_frames_40 : decode cX5_frames 40 = .ok (.aload_n 0, 1) := by decide +kernel
theorem dX5_frames_41 : decode cX5_frames 41 = .ok (.getfield 19, 3) := by decide +kernel
theorem dX5_frames_44 : decode cX5_frames 44 = .ok (.aload_n 0, 1) := by decide +kernel
theorem dX5_frames_45 : decode cX5_frames 45 = .ok (.getfield 12, 3) := by decide +kernel
theorem dX5_frames_48 : decode cX5_frames 48 = .ok (.invokevirtual 49, 3) := by decide +kernel
theorem dX5_frames_51 : decode cX5_frames 51 = .ok (.iconst 0, 1) := by decide +kernel
theorem dX5_frames_52 : decode cX5_frames 52 = .ok (.istore_n 3, 1) := by decide +kernel
theorem dX5_frames_53 : decode cX5_frames 53 = .ok (.iload_n 3, 1) := by decide +kernel
theorem dX5_frames_54 : decode cX5_frames 54 = .ok (.bipush 19, 2) := by decide +kernel
theorem dX5_frames_56 : decode cX5_frames 56 = .ok (.if_icmp .ge 46, 3) := by decide +kernel
theorem dX5_frames_59 : decode cX5_frames 59 = .ok (.iload_n 2, 1) := by decide +kernel
theorem dX5_frames_60 : decode cX5_frames 60 = .ok (.iload_n 3, 1) := by decide +kernel
theorem dX5_frames_61 : decode cX5_frames 61 = .ok (.ishr, 1) := by decide +kernel
theorem dX5_frames_62 : decode cX5_frames 62 = .ok (.iconst 1, 1) := by decide +kernel
theorem dX5_frames_63 : decode cX5_frames 63 = .ok (.iand, 1) := by decide +kernel
theorem dX5_frames_64 : decode cX5_frames 64 = .ok (.iconst 1, 1) := by decide +kernel
theorem dX5_frames_65 : decode cX5_frames 65 = .ok (.if_icmp .ne 7, 3) := by decide +kernel
theorem dX5_frames_68 : decode cX5_frames 68 = .ok (.iconst 1, 1) := by decide +kernel
theorem dX5_frames_69 : decode cX5_frames 69 = .ok (.goto 4, 3) := by decide +kernel
theorem dX5_frames_72 : decode cX5_frames 72 = .ok (.iconst 0, 1) := by decide +kernel
theorem dX5_frames_73 : decode cX5_frames 73 = .ok (.istore 4, 2) := by decide +kernel
theorem dX5_frames_75 : decode cX5_frames 75 = .ok (.aload_n 0, 1) := by decide +kernel
theorem dX5_frames_76 : decode cX5_frames 76 = .ok (.getfield 12, 3) := by decide +kernel
theorem dX5_frames_79 : decode cX5_frames 79 = .ok (.iload 4, 2) := by decide +kernel
theorem dX5_frames_81 : decode cX5_frames 81 = .ok (.ifCond .eq 7, 3) := by decide +kernel
theorem dX5_frames_84 : decode cX5_frames 84 = .ok (.iconst 2, 1) := by decide +kernel
theorem dX5_frames_85 : decode cX5_frames 85 = .ok (.goto 8, 3) := by decide +kernel
theorem dX5_frames_88 : decode cX5_frames 88 = .ok (.iload_n 1, 1) := by decide +kernel
theorem dX5_frames_89 : decode cX5_frames 89 = .ok (.iload_n 3, 1) := by decide +kernel
theorem dX5_frames_90 : decode cX5_frames 90 = .ok (.ishr, 1) := by decide +kernel
theorem dX5_frames_91 : decode cX5_frames 91 = .ok (.iconst 1, 1) := by decide +kernel
theorem dX5_frames_92 : decode cX5_frames 92 = .ok (.iand, 1) := by decide +kernel
theorem dX5_frames_93 : decode cX5_frames 93 = .ok (.invokevirtual 57, 3) := by decide +kernel
theorem dX5_frames_96 : decode cX5_frames 96 = .ok (.iinc 3 1, 3) := by decide +kernel
theorem dX5_frames_99 : decode cX5_frames 99 = .ok (.goto (-46), 3) := by decide +kernel
theorem dX5_frames_102 : decode cX5_frames 102 = .ok (.aload_n 0, 1) := by decide +kernel
theorem dX5_frames_103 : decode cX5_frames 103 = .ok (.getfield 12, 3) := by decide +kernel
theorem dX5_frames_106 : decode cX5_frames 106 = .ok (.iconst 3, 1) := by decide +kernel
theorem dX5_frames_107 : decode cX5_frames 107 = .ok (.invokevirtual 57, 3) := by decide +kernel
theorem dX5_frames_110 : decode cX5_frames 110 = .ok (.aload_n 0, 1) := by decide +kernel
theorem dX5_frames_111 : decode cX5_frames 111 = .ok (.invokevirtual 61, 3) := by decide +kernel
theorem dX5_frames_114 : decode cX5_frames 114 = .ok (.aload_n 0, 1) := by decide +kernel
theorem dX5_frames_115 : decode cX5_frames 115 = .ok (.getfield 12, 3) := by decide +kernel
theorem dX5_frames_118 : decode cX5_frames 118 = .ok (.getfield 45, 3) := by decide +kernel
theorem dX5_frames_121 : decode cX5_frames 121 = .ok (.ireturn, 1) := by decide +kernel
theorem dX5_loses_0 : decode cX5_loses 0 = .ok (.iload_n 1, 1) := by decide +kernel
theorem dX5_loses_1 : decode cX5_loses 1 = .ok (.iconst 1, 1) := by decide +kernel
theorem dX5_loses_2 : decode cX5_loses 2 = .ok (.if_icmp .lt 14, 3) := by decide +kernel
theorem dX5_loses_5 : decode cX5_loses 5 = .ok (.iload_n 1, 1) := by decide +kernel
theorem dX5_loses_6 : decode cX5_loses 6 = .ok (.aload_n 0, 1) := by decide +kernel
theorem dX5_loses_7 : decode cX5_loses 7 = .ok (.getfield 12, 3) := by decide +kernel
theorem dX5_loses_10 : decode cX5_loses 10 = .ok (.getfield 45, 3) := by decide +kernel
theorem dX5_loses_13 : decode cX5_loses 13 = .ok (.if_icmp .le 5, 3) := by decide +kernel
theorem dX5_loses_16 : decode cX5_loses 16 = .ok (.iconst (-1), 1) := by decide +kernel
theorem dX5_loses_17 : decode cX5_loses 17 = .ok (.ireturn, 1) := by decide +kernel
theorem dX5_loses_18 : decode cX5_loses 18 = .ok (.aload_n 0, 1) := by decide +kernel
theorem dX5_loses_19 : decode cX5_loses 19 = .ok (.getfield 19, 3) := by decide +kernel
theorem dX5_loses_22 : decode cX5_loses 22 = .ok (.aload_n 0, 1) := by decide +kernel
theorem dX5_loses_23 : decode cX5_loses 23 = .ok (.getfield 12, 3) := by decide +kernel
theorem dX5_loses_26 : decode cX5_loses 26 = .ok (.invokevirtual 49, 3) := by decide +kernel
theorem dX5_loses_29 : decode cX5_loses 29 = .ok (.aload_n 0, 1) := by decide +kernel
theorem dX5_loses_30 : decode cX5_loses 30 = .ok (.getfield 12, 3) := by decide +kernel
theorem dX5_loses_33 : decode cX5_loses 33 = .ok (.iload_n 1, 1) := by decide +kernel
theorem dX5_loses_34 : decode cX5_loses 34 = .ok (.invokevirtual 65, 3) := by decide +kernel
theorem dX5_loses_37 : decode cX5_loses 37 = .ok (.aload_n 0, 1) := by decide +kernel
theorem dX5_loses_38 : decode cX5_loses 38 = .ok (.invokevirtual 61, 3) := by decide +kernel
theorem dX5_loses_41 : decode cX5_loses 41 = .ok (.aload_n 0, 1) := by decide +kernel
theorem dX5_loses_42 : decode cX5_loses 42 = .ok (.getfield 12, 3) := by decide +kernel
theorem dX5_loses_45 : decode cX5_loses 45 = .ok (.getfield 45, 3) := by decide +kernel
theorem dX5_loses_48 : decode cX5_loses 48 = .ok (.ireturn, 1) := by decide +kernel
theorem dX5_needs_0 : decode cX5_needs 0 = .ok (.iload_n 1, 1) := by decide +kernel
theorem dX5_needs_1 : decode cX5_needs 1 = .ok (.iconst 1, 1) := by decide +kernel
theorem dX5_needs_2 : decode cX5_needs 2 = .ok (.if_icmp .lt 9, 3) := by decide +kernel
theorem dX5_needs_5 : decode cX5_needs 5 = .ok (.iload_n 1, 1) := by decide +kernel
theorem dX5_needs_6 : decode cX5_needs 6 = .ok (.bipush 9, 2) := by decide +kernel
theorem dX5_needs_8 : decode cX5_needs 8 = .ok (.if_icmp .le 5, 3) := by decide +kernel
theorem dX5_needs_11 : decode cX5_needs 11 = .ok (.iconst (-1), 1) := by decide +kernel
theorem dX5_needs_12 : decode cX5_needs 12 = .ok (.ireturn, 1) := by decide +kernel
theorem dX5_needs_13 : decode cX5_needs 13 = .ok (.aload_n 0, 1) := by decide +kernel
theorem dX5_needs_14 : decode cX5_needs 14 = .ok (.getfield 19, 3) := by decide +kernel
theorem dX5_needs_17 : decode cX5_needs 17 = .ok (.aload_n 0, 1) := by decide +kernel
theorem dX5_needs_18 : decode cX5_needs 18 = .ok (.getfield 12, 3) := by decide +kernel
theorem dX5_needs_21 : decode cX5_needs 21 = .ok (.invokevirtual 49, 3) := by decide +kernel
theorem dX5_needs_24 : decode cX5_needs 24 = .ok (.aload_n 0, 1) := by decide +kernel
theorem dX5_needs_25 : decode cX5_needs 25 = .ok (.getfield 12, 3) := by decide +kernel
theorem dX5_needs_28 : decode cX5_needs 28 = .ok (.getfield 68, 3) := by decide +kernel
theorem dX5_needs_31 : decode cX5_needs 31 = .ok (.istore_n 2, 1) := by decide +kernel
theorem dX5_needs_32 : decode cX5_needs 32 = .ok (.aload_n 0, 1) := by decide +kernel
theorem dX5_needs_33 : decode cX5_needs 33 = .ok (.getfield 12, 3) := by decide +kernel
theorem dX5_needs_36 : decode cX5_needs 36 = .ok (.iload_n 1, 1) := by decide +kernel
theorem dX5_needs_37 : decode cX5_needs 37 = .ok (.putfield 68, 3) := by decide +kernel
theorem dX5_needs_40 : decode cX5_needs 40 = .ok (.iload_n 2, 1) := by decide +kernel
theorem dX5_needs_41 : decode cX5_needs 41 = .ok (.ireturn, 1) := by decide +kernel
theorem dX5_drifts_0 : decode cX5_drifts 0 = .ok (.iload_n 1, 1) := by decide +kernel
theorem dX5_drifts_1 : decode cX5_drifts 1 = .ok (.ifCond .lt 9, 3) := by decide +kernel
theorem dX5_drifts_4 : decode cX5_drifts 4 = .ok (.iload_n 1, 1) := by decide +kernel
theorem dX5_drifts_5 : decode cX5_drifts 5 = .ok (.bipush 50, 2) := by decide +kernel
theorem dX5_drifts_7 : decode cX5_drifts 7 = .ok (.if_icmp .le 5, 3) := by decide +kernel
theorem dX5_drifts_10 : decode cX5_drifts 10 = .ok (.iconst (-1), 1) := by decide +kernel
theorem dX5_drifts_11 : decode cX5_drifts 11 = .ok (.ireturn, 1) := by decide +kernel
theorem dX5_drifts_12 : decode cX5_drifts 12 = .ok (.aload_n 0, 1) := by decide +kernel
theorem dX5_drifts_13 : decode cX5_drifts 13 = .ok (.getfield 19, 3) := by decide +kernel
theorem dX5_drifts_16 : decode cX5_drifts 16 = .ok (.aload_n 0, 1) := by decide +kernel
theorem dX5_drifts_17 : decode cX5_drifts 17 = .ok (.getfield 12, 3) := by decide +kernel
theorem dX5_drifts_20 : decode cX5_drifts 20 = .ok (.invokevirtual 49, 3) := by decide +kernel
theorem dX5_drifts_23 : decode cX5_drifts 23 = .ok (.aload_n 0, 1) := by decide +kernel
theorem dX5_drifts_24 : decode cX5_drifts 24 = .ok (.getfield 12, 3) := by decide +kernel
theorem dX5_drifts_27 : decode cX5_drifts 27 = .ok (.getfield 71, 3) := by decide +kernel
theorem dX5_drifts_30 : decode cX5_drifts 30 = .ok (.istore_n 2, 1) := by decide +kernel
theorem dX5_drifts_31 : decode cX5_drifts 31 = .ok (.aload_n 0, 1) := by decide +kernel
theorem dX5_drifts_32 : decode cX5_drifts 32 = .ok (.getfield 12, 3) := by decide +kernel
theorem dX5_drifts_35 : decode cX5_drifts 35 = .ok (.iload_n 1, 1) := by decide +kernel
theorem dX5_drifts_36 : decode cX5_drifts 36 = .ok (.putfield 71, 3) := by decide +kernel
theorem dX5_drifts_39 : decode cX5_drifts 39 = .ok (.iload_n 2, 1) := by decide +kernel
theorem dX5_drifts_40 : decode cX5_drifts 40 = .ok (.ireturn, 1) := by decide +kernel
theorem dX5_sets_0 : decode cX5_sets 0 = .ok (.aload_n 0, 1) := by decide +kernel
theorem dX5_sets_1 : decode cX5_sets 1 = .ok (.invokevirtual 74, 3) := by decide +kernel
theorem dX5_sets_4 : decode cX5_sets 4 = .ok (.ifCond .ne 6, 3) := by decide +kernel
theorem dX5_sets_7 : decode cX5_sets 7 = .ok (.bipush (-2), 2) := by decide +kernel
theorem dX5_sets_9 : decode cX5_sets 9 = .ok (.ireturn, 1) := by decide +kernel
theorem dX5_sets_10 : decode cX5_sets 10 = .ok (.aload_n 0, 1) := by decide +kernel
theorem dX5_sets_11 : decode cX5_sets 11 = .ok (.getfield 19, 3) := by decide +kernel
theorem dX5_sets_14 : decode cX5_sets 14 = .ok (.aload_n 0, 1) := by decide +kernel
theorem dX5_sets_15 : decode cX5_sets 15 = .ok (.getfield 12, 3) := by decide +kernel
theorem dX5_sets_18 : decode cX5_sets 18 = .ok (.invokevirtual 49, 3) := by decide +kernel
theorem dX5_sets_21 : decode cX5_sets 21 = .ok (.aload_n 0, 1) := by decide +kernel
theorem dX5_sets_22 : decode cX5_sets 22 = .ok (.getfield 12, 3) := by decide +kernel
theorem dX5_sets_25 : decode cX5_sets 25 = .ok (.aload_n 0, 1) := by decide +kernel
theorem dX5_sets_26 : decode cX5_sets 26 = .ok (.invokevirtual 78, 3) := by decide +kernel
theorem dX5_sets_29 : decode cX5_sets 29 = .ok (.getfield 82, 3) := by decide +kernel
theorem dX5_sets_32 : decode cX5_sets 32 = .ok (.putfield 85, 3) := by decide +kernel
theorem dX5_sets_35 : decode cX5_sets 35 = .ok (.aload_n 0, 1) := by decide +kernel
theorem dX5_sets_36 : decode cX5_sets 36 = .ok (.getfield 12, 3) := by decide +kernel
theorem dX5_sets_39 : decode cX5_sets 39 = .ok (.iconst 0, 1) := by decide +kernel
theorem dX5_sets_40 : decode cX5_sets 40 = .ok (.putfield 88, 3) := by decide +kernel
theorem dX5_sets_43 : decode cX5_sets 43 = .ok (.aload_n 0, 1) := by decide +kernel
theorem dX5_sets_44 : decode cX5_sets 44 = .ok (.getfield 12, 3) := by decide +kernel
theorem dX5_sets_47 : decode cX5_sets 47 = .ok (.getfield 85, 3) := by decide +kernel
theorem dX5_sets_50 : decode cX5_sets 50 = .ok (.invokestatic 91, 3) := by decide +kernel
theorem dX5_sets_53 : decode cX5_sets 53 = .ok (.ireturn, 1) := by decide +kernel
theorem dX5_goes_0 : decode cX5_goes 0 = .ok (.iload_n 1, 1) := by decide +kernel
theorem dX5_goes_1 : decode cX5_goes 1 = .ok (.iconst 1, 1) := by decide +kernel
theorem dX5_goes_2 : decode cX5_goes 2 = .ok (.if_icmp .lt 10, 3) := by decide +kernel
theorem dX5_goes_5 : decode cX5_goes 5 = .ok (.iload_n 1, 1) := by decide +kernel
theorem dX5_goes_6 : decode cX5_goes 6 = .ok (.sipush 999, 3) := by decide +kernel
theorem dX5_goes_9 : decode cX5_goes 9 = .ok (.if_icmp .le 5, 3) := by decide +kernel
theorem dX5_goes_12 : decode cX5_goes 12 = .ok (.iconst (-1), 1) := by decide +kernel
theorem dX5_goes_13 : decode cX5_goes 13 = .ok (.ireturn, 1) := by decide +kernel
theorem dX5_goes_14 : decode cX5_goes 14 = .ok (.aload_n 0, 1) := by decide +kernel
theorem dX5_goes_15 : decode cX5_goes 15 = .ok (.getfield 12, 3) := by decide +kernel
theorem dX5_goes_18 : decode cX5_goes 18 = .ok (.getfield 85, 3) := by decide +kernel
theorem dX5_goes_21 : decode cX5_goes 21 = .ok (.iconst (-1), 1) := by decide +kernel
theorem dX5_goes_22 : decode cX5_goes 22 = .ok (.if_icmp .ne 6, 3) := by decide +kernel
theorem dX5_goes_25 : decode cX5_goes 25 = .ok (.bipush (-2), 2) := by decide +kernel
theorem dX5_goes_27 : decode cX5_goes 27 = .ok (.ireturn, 1) := by decide +kernel
theorem dX5_goes_28 : decode cX5_goes 28 = .ok (.aload_n 0, 1) := by decide +kernel
theorem dX5_goes_29 : decode cX5_goes 29 = .ok (.getfield 19, 3) := by decide +kernel
theorem dX5_goes_32 : decode cX5_goes 32 = .ok (.aload_n 0, 1) := by decide +kernel
theorem dX5_goes_33 : decode cX5_goes 33 = .ok (.getfield 12, 3) := by decide +kernel
theorem dX5_goes_36 : decode cX5_goes 36 = .ok (.invokevirtual 49, 3) := by decide +kernel
theorem dX5_goes_39 : decode cX5_goes 39 = .ok (.aload_n 0, 1) := by decide +kernel
theorem dX5_goes_40 : decode cX5_goes 40 = .ok (.getfield 12, 3) := by decide +kernel
theorem dX5_goes_43 : decode cX5_goes 43 = .ok (.aload_n 0, 1) := by decide +kernel
theorem dX5_goes_44 : decode cX5_goes 44 = .ok (.getfield 12, 3) := by decide +kernel
theorem dX5_goes_47 : decode cX5_goes 47 = .ok (.getfield 85, 3) := by decide +kernel
theorem dX5_goes_50 : decode cX5_goes 50 = .ok (.iload_n 1, 1) := by decide +kernel
theorem dX5_goes_51 : decode cX5_goes 51 = .ok (.invokestatic 96, 3) := by decide +kernel
theorem dX5_goes_54 : decode cX5_goes 54 = .ok (.putfield 85, 3) := by decide +kernel
theorem dX5_goes_57 : decode cX5_goes 57 = .ok (.aload_n 0, 1) := by decide +kernel
theorem dX5_goes_58 : decode cX5_goes 58 = .ok (.getfield 12, 3) := by decide +kernel
theorem dX5_goes_61 : decode cX5_goes 61 = .ok (.aload_n 0, 1) := by decide +kernel
theorem dX5_goes_62 : decode cX5_goes 62 = .ok (.getfield 12, 3) := by decide +kernel
theorem dX5_goes_65 : decode cX5_goes 65 = .ok (.getfield 88, 3) := by decide +kernel
theorem dX5_goes_68 : decode cX5_goes 68 = .ok (.iload_n 1, 1) := by decide +kernel
theorem dX5_goes_69 : decode cX5_goes 69 = .ok (.iadd, 1) := by decide +kernel
theorem dX5_goes_70 : decode cX5_goes 70 = .ok (.sipush 9999, 3) := by decide +kernel
theorem dX5_goes_73 : decode cX5_goes 73 = .ok (.invokestatic 100, 3) := by decide +kernel
theorem dX5_goes_76 : decode cX5_goes 76 = .ok (.putfield 88, 3) := by decide +kernel
theorem dX5_goes_79 : decode cX5_goes 79 = .ok (.aload_n 0, 1) := by decide +kernel
theorem dX5_goes_80 : decode cX5_goes 80 = .ok (.getfield 12, 3) := by decide +kernel
theorem dX5_goes_83 : decode cX5_goes 83 = .ok (.getfield 85, 3) := by decide +kernel
theorem dX5_goes_86 : decode cX5_goes 86 = .ok (.invokestatic 91, 3) := by decide +kernel
theorem dX5_goes_89 : decode cX5_goes 89 = .ok (.ireturn, 1) := by decide +kernel
theorem dX5_undo_0 : decode cX5_undo 0 = .ok (.aload_n 0, 1) := by decide +kernel
theorem dX5_undo_1 : decode cX5_undo 1 = .ok (.getfield 19, 3) := by decide +kernel
theorem dX5_undo_4 : decode cX5_undo 4 = .ok (.getfield 105, 3) := by decide +kernel
theorem dX5_undo_7 : decode cX5_undo 7 = .ok (.ifCond .ne 6, 3) := by decide +kernel
theorem dX5_undo_10 : decode cX5_undo 10 = .ok (.bipush (-2), 2) := by decide +kernel
theorem dX5_undo_12 : decode cX5_undo 12 = .ok (.ireturn, 1) := by decide +kernel
theorem dX5_undo_13 : decode cX5_undo 13 = .ok (.aload_n 0, 1) := by decide +kernel
theorem dX5_undo_14 : decode cX5_undo 14 = .ok (.getfield 19, 3) := by decide +kernel
theorem dX5_undo_17 : decode cX5_undo 17 = .ok (.aload_n 0, 1) := by decide +kernel
theorem dX5_undo_18 : decode cX5_undo 18 = .ok (.getfield 12, 3) := by decide +kernel
theorem dX5_undo_21 : decode cX5_undo 21 = .ok (.invokevirtual 106, 3) := by decide +kernel
theorem dX5_undo_24 : decode cX5_undo 24 = .ok (.aload_n 0, 1) := by decide +kernel
theorem dX5_undo_25 : decode cX5_undo 25 = .ok (.invokevirtual 61, 3) := by decide +kernel
theorem dX5_undo_28 : decode cX5_undo 28 = .ok (.aload_n 0, 1) := by decide +kernel
theorem dX5_undo_29 : decode cX5_undo 29 = .ok (.getfield 19, 3) := by decide +kernel
theorem dX5_undo_32 : decode cX5_undo 32 = .ok (.getfield 105, 3) := by decide +kernel
theorem dX5_undo_35 : decode cX5_undo 35 = .ok (.ireturn, 1) := by decide +kernel
theorem dX5_symbol_0 : decode cX5_symbol 0 = .ok (.iload_n 1, 1) := by decide +kernel
theorem dX5_symbol_1 : decode cX5_symbol 1 = .ok (.ifCond .lt 14, 3) := by decide +kernel
theorem dX5_symbol_4 : decode cX5_symbol 4 = .ok (.iload_n 1, 1) := by decide +kernel
theorem dX5_symbol_5 : decode cX5_symbol 5 = .ok (.aload_n 0, 1) := by decide +kernel
theorem dX5_symbol_6 : decode cX5_symbol 6 = .ok (.getfield 12, 3) := by decide +kernel
theorem dX5_symbol_9 : decode cX5_symbol 9 = .ok (.getfield 45, 3) := by decide +kernel
theorem dX5_symbol_12 : decode cX5_symbol 12 = .ok (.if_icmp .lt 7, 3) := by decide +kernel
theorem dX5_symbol_15 : decode cX5_symbol 15 = .ok (.iconst (-1), 1) := by decide +kernel
theorem dX5_symbol_16 : decode cX5_symbol 16 = .ok (.goto 12, 3) := by decide +kernel
theorem dX5_symbol_19 : decode cX5_symbol 19 = .ok (.aload_n 0, 1) := by decide +kernel
theorem dX5_symbol_20 : decode cX5_symbol 20 = .ok (.getfield 12, 3) := by decide +kernel
theorem dX5_symbol_23 : decode cX5_symbol 23 = .ok (.getfield 109, 3) := by decide +kernel
theorem dX5_symbol_26 : decode cX5_symbol 26 = .ok (.iload_n 1, 1) := by decide +kernel
theorem dX5_symbol_27 : decode cX5_symbol 27 = .ok (.baload, 1) := by decide +kernel
theorem dX5_symbol_28 : decode cX5_symbol 28 = .ok (.ireturn, 1) := by decide +kernel
theorem dX5_read_0 : decode cX5_read 0 = .ok (.aload_n 0, 1) := by decide +kernel
theorem dX5_read_1 : decode cX5_read 1 = .ok (.invokevirtual 113, 3) := by decide +kernel
theorem dX5_read_4 : decode cX5_read 4 = .ok (.astore_n 3, 1) := by decide +kernel
theorem dX5_read_5 : decode cX5_read 5 = .ok (.iload_n 1, 1) := by decide +kernel
theorem dX5_read_6 : decode cX5_read 6 = .ok (.ifCond .lt 21, 3) := by decide +kernel
theorem dX5_read_9 : decode cX5_read 9 = .ok (.iload_n 1, 1) := by decide +kernel
theorem dX5_read_10 : decode cX5_read 10 = .ok (.aload_n 3, 1) := by decide +kernel
theorem dX5_read_11 : decode cX5_read 11 = .ok (.getfield 117, 3) := by decide +kernel
theorem dX5_read_14 : decode cX5_read 14 = .ok (.if_icmp .ge 13, 3) := by decide +kernel
theorem dX5_read_17 : decode cX5_read 17 = .ok (.iload_n 2, 1) := by decide +kernel
theorem dX5_read_18 : decode cX5_read 18 = .ok (.ifCond .lt 9, 3) := by decide +kernel
theorem dX5_read_21 : decode cX5_read 21 = .ok (.iload_n 2, 1) := by decide +kernel
theorem dX5_read_22 : decode cX5_read 22 = .ok (.bipush 8, 2) := by decide +kernel
theorem dX5_read_24 : decode cX5_read 24 = .ok (.if_icmp .le 5, 3) := by decide +kernel
theorem dX5_read_27 : decode cX5_read 27 = .ok (.iconst (-1), 1) := by decide +kernel
theorem dX5_read_28 : decode cX5_read 28 = .ok (.ireturn, 1) := by decide +kernel
theorem dX5_read_29 : decode cX5_read 29 = .ok (.iload_n 2, 1) := by decide +kernel
theorem dX5_read_30 : decode cX5_read 30 = .ok (.tableswitch 102 0 8 #[50, 56, 65, 73, 79, 102, 102, 102, 85], 50) := by decide +kernel
theorem dX5_read_80 : decode cX5_read 80 = .ok (.aload_n 3, 1) := by decide +kernel
theorem dX5_read_81 : decode cX5_read 81 = .ok (.iload_n 1, 1) := by decide +kernel
theorem dX5_read_82 : decode cX5_read 82 = .ok (.invokevirtual 120, 3) := by decide +kernel
theorem dX5_read_85 : decode cX5_read 85 = .ok (.ireturn, 1) := by decide +kernel
theorem dX5_read_86 : decode cX5_read 86 = .ok (.aload_n 3, 1) := by decide +kernel
theorem dX5_read_87 : decode cX5_read 87 = .ok (.iload_n 1, 1) := by decide +kernel
theorem dX5_read_88 : decode cX5_read 88 = .ok (.sipush 4080, 3) := by decide +kernel
theorem dX5_read_91 : decode cX5_read 91 = .ok (.invokevirtual 123, 3) := by decide +kernel
theorem dX5_read_94 : decode cX5_read 94 = .ok (.ireturn, 1) := by decide +kernel
theorem dX5_read_95 : decode cX5_read 95 = .ok (.aload_n 3, 1) := by decide +kernel
theorem dX5_read_96 : decode cX5_read 96 = .ok (.iload_n 1, 1) := by decide +kernel
theorem dX5_read_97 : decode cX5_read 97 = .ok (.ldc 126, 2) := by decide +kernel
theorem dX5_read_99 : decode cX5_read 99 = .ok (.invokevirtual 123, 3) := by decide +kernel
theorem dX5_read_102 : decode cX5_read 102 = .ok (.ireturn, 1) := by decide +kernel
theorem dX5_read_103 : decode cX5_read 103 = .ok (.aload_n 3, 1) := by decide +kernel
theorem dX5_read_104 : decode cX5_read 104 = .ok (.iload_n 1, 1) := by decide +kernel
theorem dX5_read_105 : decode cX5_read 105 = .ok (.invokevirtual 127, 3) := by decide +kernel
theorem dX5_read_108 : decode cX5_read 108 = .ok (.ireturn, 1) := by decide +kernel
theorem dX5_read_109 : decode cX5_read 109 = .ok (.aload_n 3, 1) := by decide +kernel
theorem dX5_read_110 : decode cX5_read 110 = .ok (.iload_n 1, 1) := by decide +kernel
theorem dX5_read_111 : decode cX5_read 111 = .ok (.invokevirtual 130, 3) := by decide +kernel
theorem dX5_read_114 : decode cX5_read 114 = .ok (.ireturn, 1) := by decide +kernel
theorem dX5_read_115 : decode cX5_read 115 = .ok (.aload_n 3, 1) := by decide +kernel
theorem dX5_read_116 : decode cX5_read 116 = .ok (.iload_n 1, 1) := by decide +kernel
theorem dX5_read_117 : decode cX5_read 117 = .ok (.aload_n 0, 1) := by decide +kernel
theorem dX5_read_118 : decode cX5_read 118 = .ok (.invokevirtual 78, 3) := by decide +kernel
theorem dX5_read_121 : decode cX5_read 121 = .ok (.getfield 133, 3) := by decide +kernel
theorem dX5_read_124 : decode cX5_read 124 = .ok (.iload_n 1, 1) := by decide +kernel
theorem dX5_read_125 : decode cX5_read 125 = .ok (.invokestatic 96, 3) := by decide +kernel
theorem dX5_read_128 : decode cX5_read 128 = .ok (.invokevirtual 136, 3) := by decide +kernel
theorem dX5_read_131 : decode cX5_read 131 = .ok (.ireturn, 1) := by decide +kernel
theorem dX5_read_132 : decode cX5_read 132 = .ok (.aload_n 0, 1) := by decide +kernel
theorem dX5_read_133 : decode cX5_read 133 = .ok (.aload_n 3, 1) := by decide +kernel
theorem dX5_read_134 : decode cX5_read 134 = .ok (.iload_n 1, 1) := by decide +kernel
theorem dX5_read_135 : decode cX5_read 135 = .ok (.invokevirtual 120, 3) := by decide +kernel
theorem dX5_read_138 : decode cX5_read 138 = .ok (.iload_n 2, 1) := by decide +kernel
theorem dX5_read_139 : decode cX5_read 139 = .ok (.iadd, 1) := by decide +kernel
theorem dX5_read_140 : decode cX5_read 140 = .ok (.iconst 4, 1) := by decide +kernel
theorem dX5_read_141 : decode cX5_read 141 = .ok (.isub, 1) := by decide +kernel
theorem dX5_read_142 : decode cX5_read 142 = .ok (.invokevirtual 139, 3) := by decide +kernel
theorem dX5_read_145 : decode cX5_read 145 = .ok (.ireturn, 1) := by decide +kernel
theorem dX5_vote_0 : decode cX5_vote 0 = .ok (.iload_n 1, 1) := by decide +kernel
theorem dX5_vote_1 : decode cX5_vote 1 = .ok (.ifCond .lt 9, 3) := by decide +kernel
theorem dX5_vote_4 : decode cX5_vote 4 = .ok (.iload_n 1, 1) := by decide +kernel
theorem dX5_vote_5 : decode cX5_vote 5 = .ok (.bipush 10, 2) := by decide +kernel
theorem dX5_vote_7 : decode cX5_vote 7 = .ok (.if_icmp .le 5, 3) := by decide +kernel
theorem dX5_vote_10 : decode cX5_vote 10 = .ok (.iconst (-1), 1) := by decide +kernel
theorem dX5_vote_11 : decode cX5_vote 11 = .ok (.ireturn, 1) := by decide +kernel
theorem dX5_vote_12 : decode cX5_vote 12 = .ok (.aload_n 0, 1) := by decide +kernel
theorem dX5_vote_13 : decode cX5_vote 13 = .ok (.invokevirtual 113, 3) := by decide +kernel
theorem dX5_vote_16 : decode cX5_vote 16 = .ok (.getfield 117, 3) := by decide +kernel
theorem dX5_vote_19 : decode cX5_vote 19 = .ok (.ifCond .ne 6, 3) := by decide +kernel
theorem dX5_vote_22 : decode cX5_vote 22 = .ok (.bipush (-9), 2) := by decide +kernel
theorem dX5_vote_24 : decode cX5_vote 24 = .ok (.ireturn, 1) := by decide +kernel
theorem dX5_vote_25 : decode cX5_vote 25 = .ok (.aload_n 0, 1) := by decide +kernel
theorem dX5_vote_26 : decode cX5_vote 26 = .ok (.invokevirtual 78, 3) := by decide +kernel
theorem dX5_vote_29 : decode cX5_vote 29 = .ok (.astore_n 2, 1) := by decide +kernel
theorem dX5_vote_30 : decode cX5_vote 30 = .ok (.iload_n 1, 1) := by decide +kernel
theorem dX5_vote_31 : decode cX5_vote 31 = .ok (.tableswitch 48 4 6 #[25, 30, 35], 25) := by decide +kernel
theorem dX5_vote_56 : decode cX5_vote 56 = .ok (.aload_n 2, 1) := by decide +kernel
theorem dX5_vote_57 : decode cX5_vote 57 = .ok (.getfield 142, 3) := by decide +kernel
theorem dX5_vote_60 : decode cX5_vote 60 = .ok (.ireturn, 1) := by decide +kernel
theorem dX5_vote_61 : decode cX5_vote 61 = .ok (.aload_n 2, 1) := by decide +kernel
theorem dX5_vote_62 : decode cX5_vote 62 = .ok (.getfield 145, 3) := by decide +kernel
theorem dX5_vote_65 : decode cX5_vote 65 = .ok (.ireturn, 1) := by decide +kernel
theorem dX5_vote_66 : decode cX5_vote 66 = .ok (.aload_n 0, 1) := by decide +kernel
theorem dX5_vote_67 : decode cX5_vote 67 = .ok (.invokevirtual 74, 3) := by decide +kernel
theorem dX5_vote_70 : decode cX5_vote 70 = .ok (.ifCond .eq 7, 3) := by decide +kernel
theorem dX5_vote_73 : decode cX5_vote 73 = .ok (.iconst 1, 1) := by decide +kernel
theorem dX5_vote_74 : decode cX5_vote 74 = .ok (.goto 4, 3) := by decide +kernel
theorem dX5_vote_77 : decode cX5_vote 77 = .ok (.iconst 0, 1) := by decide +kernel
theorem dX5_vote_78 : decode cX5_vote 78 = .ok (.ireturn, 1) := by decide +kernel
theorem dX5_vote_79 : decode cX5_vote 79 = .ok (.iload_n 1, 1) := by decide +kernel
theorem dX5_vote_80 : decode cX5_vote 80 = .ok (.iconst 4, 1) := by decide +kernel
theorem dX5_vote_81 : decode cX5_vote 81 = .ok (.if_icmp .ge 14, 3) := by decide +kernel
theorem dX5_vote_84 : decode cX5_vote 84 = .ok (.aload_n 2, 1) := by decide +kernel
theorem dX5_vote_85 : decode cX5_vote 85 = .ok (.getfield 133, 3) := by decide +kernel
theorem dX5_vote_88 : decode cX5_vote 88 = .ok (.iload_n 1, 1) := by decide +kernel
theorem dX5_vote_89 : decode cX5_vote 89 = .ok (.invokestatic 148, 3) := by decide +kernel
theorem dX5_vote_92 : decode cX5_vote 92 = .ok (.goto 14, 3) := by decide +kernel
theorem dX5_vote_95 : decode cX5_vote 95 = .ok (.aload_n 2, 1) := by decide +kernel
theorem dX5_vote_96 : decode cX5_vote 96 = .ok (.getfield 82, 3) := by decide +kernel
theorem dX5_vote_99 : decode cX5_vote 99 = .ok (.iload_n 1, 1) := by decide +kernel
theorem dX5_vote_100 : decode cX5_vote 100 = .ok (.bipush 7, 2) := by decide +kernel
theorem dX5_vote_102 : decode cX5_vote 102 = .ok (.isub, 1) := by decide +kernel
theorem dX5_vote_103 : decode cX5_vote 103 = .ok (.invokestatic 148, 3) := by decide +kernel
theorem dX5_vote_106 : decode cX5_vote 106 = .ok (.ireturn, 1) := by decide +kernel
theorem dX5_misses_0 : decode cX5_misses 0 = .ok (.iload_n 1, 1) := by decide +kernel
theorem dX5_misses_1 : decode cX5_misses 1 = .ok (.iload_n 2, 1) := by decide +kernel
theorem dX5_misses_2 : decode cX5_misses 2 = .ok (.iload_n 3, 1) := by decide +kernel
theorem dX5_misses_3 : decode cX5_misses 3 = .ok (.iload 4, 2) := by decide +kernel
theorem dX5_misses_5 : decode cX5_misses 5 = .ok (.invokestatic 151, 3) := by decide +kernel
theorem dX5_misses_8 : decode cX5_misses 8 = .ok (.ifCond .ne 5, 3) := by decide +kernel
theorem dX5_misses_11 : decode cX5_misses 11 = .ok (.iconst (-1), 1) := by decide +kernel
theorem dX5_misses_12 : decode cX5_misses 12 = .ok (.ireturn, 1) := by decide +kernel
theorem dX5_misses_13 : decode cX5_misses 13 = .ok (.aload_n 0, 1) := by decide +kernel
theorem dX5_misses_14 : decode cX5_misses 14 = .ok (.invokevirtual 113, 3) := by decide +kernel
theorem dX5_misses_17 : decode cX5_misses 17 = .ok (.iload_n 1, 1) := by decide +kernel
theorem dX5_misses_18 : decode cX5_misses 18 = .ok (.iload_n 2, 1) := by decide +kernel
theorem dX5_misses_19 : decode cX5_misses 19 = .ok (.iload_n 3, 1) := by decide +kernel
theorem dX5_misses_20 : decode cX5_misses 20 = .ok (.iload 4, 2) := by decide +kernel
theorem dX5_misses_22 : decode cX5_misses 22 = .ok (.invokestatic 155, 3) := by decide +kernel
theorem dX5_misses_25 : decode cX5_misses 25 = .ok (.invokevirtual 159, 3) := by decide +kernel
theorem dX5_misses_28 : decode cX5_misses 28 = .ok (.ireturn, 1) := by decide +kernel
theorem dX5_close_0 : decode cX5_close 0 = .ok (.iload_n 1, 1) := by decide +kernel
theorem dX5_close_1 : decode cX5_close 1 = .ok (.ifCond .lt 14, 3) := by decide +kernel
theorem dX5_close_4 : decode cX5_close 4 = .ok (.iload_n 1, 1) := by decide +kernel
theorem dX5_close_5 : decode cX5_close 5 = .ok (.bipush 120, 2) := by decide +kernel
theorem dX5_close_7 : decode cX5_close 7 = .ok (.if_icmp .gt 8, 3) := by decide +kernel
theorem dX5_close_10 : decode cX5_close 10 = .ok (.iload_n 2, 1) := by decide +kernel
theorem dX5_close_11 : decode cX5_close 11 = .ok (.iconst (-1), 1) := by decide +kernel
theorem dX5_close_12 : decode cX5_close 12 = .ok (.if_icmp .ge 5, 3) := by decide +kernel
theorem dX5_close_15 : decode cX5_close 15 = .ok (.iconst (-1), 1) := by decide +kernel
theorem dX5_close_16 : decode cX5_close 16 = .ok (.ireturn, 1) := by decide +kernel
theorem dX5_close_17 : decode cX5_close 17 = .ok (.aload_n 0, 1) := by decide +kernel
theorem dX5_close_18 : decode cX5_close 18 = .ok (.invokevirtual 78, 3) := by decide +kernel
theorem dX5_close_21 : decode cX5_close 21 = .ok (.astore_n 3, 1) := by decide +kernel
theorem dX5_close_22 : decode cX5_close 22 = .ok (.iload_n 2, 1) := by decide +kernel
theorem dX5_close_23 : decode cX5_close 23 = .ok (.iconst (-1), 1) := by decide +kernel
theorem dX5_close_24 : decode cX5_close 24 = .ok (.if_icmp .ne 11, 3) := by decide +kernel
theorem dX5_close_27 : decode cX5_close 27 = .ok (.aload_n 3, 1) := by decide +kernel
theorem dX5_close_28 : decode cX5_close 28 = .ok (.iload_n 1, 1) := by decide +kernel
theorem dX5_close_29 : decode cX5_close 29 = .ok (.invokevirtual 162, 3) := by decide +kernel
theorem dX5_close_32 : decode cX5_close 32 = .ok (.goto 9, 3) := by decide +kernel
theorem dX5_close_35 : decode cX5_close 35 = .ok (.aload_n 3, 1) := by decide +kernel
theorem dX5_close_36 : decode cX5_close 36 = .ok (.iload_n 1, 1) := by decide +kernel
theorem dX5_close_37 : decode cX5_close 37 = .ok (.iload_n 2, 1) := by decide +kernel
theorem dX5_close_38 : decode cX5_close 38 = .ok (.invokevirtual 165, 3) := by decide +kernel
theorem dX5_close_41 : decode cX5_close 41 = .ok (.ireturn, 1) := by decide +kernel
theorem dX5_bits_0 : decode cX5_bits 0 = .ok (.iload_n 1, 1) := by decide +kernel
theorem dX5_bits_1 : decode cX5_bits 1 = .ok (.iload_n 2, 1) := by decide +kernel
theorem dX5_bits_2 : decode cX5_bits 2 = .ok (.iload_n 3, 1) := by decide +kernel
theorem dX5_bits_3 : decode cX5_bits 3 = .ok (.iload 4, 2) := by decide +kernel
theorem dX5_bits_5 : decode cX5_bits 5 = .ok (.invokestatic 151, 3) := by decide +kernel
theorem dX5_bits_8 : decode cX5_bits 8 = .ok (.ifCond .ne 5, 3) := by decide +kernel
theorem dX5_bits_11 : decode cX5_bits 11 = .ok (.iconst (-1), 1) := by decide +kernel
theorem dX5_bits_12 : decode cX5_bits 12 = .ok (.ireturn, 1) := by decide +kernel
theorem dX5_bits_13 : decode cX5_bits 13 = .ok (.iload_n 1, 1) := by decide +kernel
theorem dX5_bits_14 : decode cX5_bits 14 = .ok (.iload_n 2, 1) := by decide +kernel
theorem dX5_bits_15 : decode cX5_bits 15 = .ok (.iload_n 3, 1) := by decide +kernel
theorem dX5_bits_16 : decode cX5_bits 16 = .ok (.iload 4, 2) := by decide +kernel
theorem dX5_bits_18 : decode cX5_bits 18 = .ok (.invokestatic 155, 3) := by decide +kernel
theorem dX5_bits_21 : decode cX5_bits 21 = .ok (.invokestatic 168, 3) := by decide +kernel
theorem dX5_bits_24 : decode cX5_bits 24 = .ok (.ireturn, 1) := by decide +kernel
theorem dX5_clock_0 : decode cX5_clock 0 = .ok (.iload_n 1, 1) := by decide +kernel
theorem dX5_clock_1 : decode cX5_clock 1 = .ok (.ifCond .lt 20, 3) := by decide +kernel
theorem dX5_clock_4 : decode cX5_clock 4 = .ok (.iload_n 1, 1) := by decide +kernel
theorem dX5_clock_5 : decode cX5_clock 5 = .ok (.bipush 7, 2) := by decide +kernel
theorem dX5_clock_7 : decode cX5_clock 7 = .ok (.if_icmp .gt 14, 3) := by decide +kernel
theorem dX5_clock_10 : decode cX5_clock 10 = .ok (.aload_n 0, 1) := by decide +kernel
theorem dX5_clock_11 : decode cX5_clock 11 = .ok (.getfield 12, 3) := by decide +kernel
theorem dX5_clock_14 : decode cX5_clock 14 = .ok (.getfield 85, 3) := by decide +kernel
theorem dX5_clock_17 : decode cX5_clock 17 = .ok (.iconst (-1), 1) := by decide +kernel
theorem dX5_clock_18 : decode cX5_clock 18 = .ok (.if_icmp .ne 6, 3) := by decide +kernel
theorem dX5_clock_21 : decode cX5_clock 21 = .ok (.ldc 171, 2) := by decide +kernel
theorem dX5_clock_23 : decode cX5_clock 23 = .ok (.ireturn, 1) := by decide +kernel
theorem dX5_clock_24 : decode cX5_clock 24 = .ok (.iload_n 1, 1) := by decide +kernel
theorem dX5_clock_25 : decode cX5_clock 25 = .ok (.tableswitch 65 4 7 #[31, 39, 44, 60], 31) := by decide +kernel
theorem dX5_clock_56 : decode cX5_clock 56 = .ok (.aload_n 0, 1) := by decide +kernel
theorem dX5_clock_57 : decode cX5_clock 57 = .ok (.getfield 12, 3) := by decide +kernel
theorem dX5_clock_60 : decode cX5_clock 60 = .ok (.getfield 88, 3) := by decide +kernel
theorem dX5_clock_63 : decode cX5_clock 63 = .ok (.ireturn, 1) := by decide +kernel
theorem dX5_clock_64 : decode cX5_clock 64 = .ok (.aload_n 0, 1) := by decide +kernel
theorem dX5_clock_65 : decode cX5_clock 65 = .ok (.invokevirtual 172, 3) := by decide +kernel
theorem dX5_clock_68 : decode cX5_clock 68 = .ok (.ireturn, 1) := by decide +kernel
theorem dX5_clock_69 : decode cX5_clock 69 = .ok (.aload_n 0, 1) := by decide +kernel
theorem dX5_clock_70 : decode cX5_clock 70 = .ok (.invokevirtual 172, 3) := by decide +kernel
theorem dX5_clock_73 : decode cX5_clock 73 = .ok (.sipush 500, 3) := by decide +kernel
theorem dX5_clock_76 : decode cX5_clock 76 = .ok (.if_icmp .le 7, 3) := by decide +kernel
theorem dX5_clock_79 : decode cX5_clock 79 = .ok (.iconst 1, 1) := by decide +kernel
theorem dX5_clock_80 : decode cX5_clock 80 = .ok (.goto 4, 3) := by decide +kernel
theorem dX5_clock_83 : decode cX5_clock 83 = .ok (.iconst 0, 1) := by decide +kernel
theorem dX5_clock_84 : decode cX5_clock 84 = .ok (.ireturn, 1) := by decide +kernel
theorem dX5_clock_85 : decode cX5_clock 85 = .ok (.aload_n 0, 1) := by decide +kernel
theorem dX5_clock_86 : decode cX5_clock 86 = .ok (.invokevirtual 176, 3) := by decide +kernel
theorem dX5_clock_89 : decode cX5_clock 89 = .ok (.ireturn, 1) := by decide +kernel
theorem dX5_clock_90 : decode cX5_clock 90 = .ok (.aload_n 0, 1) := by decide +kernel
theorem dX5_clock_91 : decode cX5_clock 91 = .ok (.getfield 12, 3) := by decide +kernel
theorem dX5_clock_94 : decode cX5_clock 94 = .ok (.getfield 85, 3) := by decide +kernel
theorem dX5_clock_97 : decode cX5_clock 97 = .ok (.iload_n 1, 1) := by decide +kernel
theorem dX5_clock_98 : decode cX5_clock 98 = .ok (.invokestatic 148, 3) := by decide +kernel
theorem dX5_clock_101 : decode cX5_clock 101 = .ok (.ireturn, 1) := by decide +kernel
theorem dX5_keep_0 : decode cX5_keep 0 = .ok (.iload_n 1, 1) := by decide +kernel
theorem dX5_keep_1 : decode cX5_keep 1 = .ok (.ifCond .lt 8, 3) := by decide +kernel
theorem dX5_keep_4 : decode cX5_keep 4 = .ok (.iload_n 1, 1) := by decide +kernel
theorem dX5_keep_5 : decode cX5_keep 5 = .ok (.iconst 2, 1) := by decide +kernel
theorem dX5_keep_6 : decode cX5_keep 6 = .ok (.if_icmp .lt 5, 3) := by decide +kernel
theorem dX5_keep_9 : decode cX5_keep 9 = .ok (.iconst (-1), 1) := by decide +kernel
theorem dX5_keep_10 : decode cX5_keep 10 = .ok (.ireturn, 1) := by decide +kernel
theorem dX5_keep_11 : decode cX5_keep 11 = .ok (.aload_n 0, 1) := by decide +kernel
theorem dX5_keep_12 : decode cX5_keep 12 = .ok (.getfield 23, 3) := by decide +kernel
theorem dX5_keep_15 : decode cX5_keep 15 = .ok (.iload_n 1, 1) := by decide +kernel
theorem dX5_keep_16 : decode cX5_keep 16 = .ok (.aaload, 1) := by decide +kernel
theorem dX5_keep_17 : decode cX5_keep 17 = .ok (.aload_n 0, 1) := by decide +kernel
theorem dX5_keep_18 : decode cX5_keep 18 = .ok (.getfield 12, 3) := by decide +kernel
theorem dX5_keep_21 : decode cX5_keep 21 = .ok (.invokevirtual 179, 3) := by decide +kernel
theorem dX5_keep_24 : decode cX5_keep 24 = .ok (.aload_n 0, 1) := by decide +kernel
theorem dX5_keep_25 : decode cX5_keep 25 = .ok (.getfield 27, 3) := by decide +kernel
theorem dX5_keep_28 : decode cX5_keep 28 = .ok (.iload_n 1, 1) := by decide +kernel
theorem dX5_keep_29 : decode cX5_keep 29 = .ok (.iconst 1, 1) := by decide +kernel
theorem dX5_keep_30 : decode cX5_keep 30 = .ok (.bastore, 1) := by decide +kernel
theorem dX5_keep_31 : decode cX5_keep 31 = .ok (.aload_n 0, 1) := by decide +kernel
theorem dX5_keep_32 : decode cX5_keep 32 = .ok (.getfield 12, 3) := by decide +kernel
theorem dX5_keep_35 : decode cX5_keep 35 = .ok (.getfield 45, 3) := by decide +kernel
theorem dX5_keep_38 : decode cX5_keep 38 = .ok (.ireturn, 1) := by decide +kernel
theorem dX5_back_0 : decode cX5_back 0 = .ok (.iload_n 1, 1) := by decide +kernel
theorem dX5_back_1 : decode cX5_back 1 = .ok (.ifCond .lt 8, 3) := by decide +kernel
theorem dX5_back_4 : decode cX5_back 4 = .ok (.iload_n 1, 1) := by decide +kernel
theorem dX5_back_5 : decode cX5_back 5 = .ok (.iconst 2, 1) := by decide +kernel
theorem dX5_back_6 : decode cX5_back 6 = .ok (.if_icmp .lt 5, 3) := by decide +kernel
theorem dX5_back_9 : decode cX5_back 9 = .ok (.iconst (-1), 1) := by decide +kernel
theorem dX5_back_10 : decode cX5_back 10 = .ok (.ireturn, 1) := by decide +kernel
theorem dX5_back_11 : decode cX5_back 11 = .ok (.aload_n 0, 1) := by decide +kernel
theorem dX5_back_12 : decode cX5_back 12 = .ok (.getfield 27, 3) := by decide +kernel
theorem dX5_back_15 : decode cX5_back 15 = .ok (.iload_n 1, 1) := by decide +kernel
theorem dX5_back_16 : decode cX5_back 16 = .ok (.baload, 1) := by decide +kernel
theorem dX5_back_17 : decode cX5_back 17 = .ok (.ifCond .ne 6, 3) := by decide +kernel
theorem dX5_back_20 : decode cX5_back 20 = .ok (.bipush (-2), 2) := by decide +kernel
theorem dX5_back_22 : decode cX5_back 22 = .ok (.ireturn, 1) := by decide +kernel
theorem dX5_back_23 : decode cX5_back 23 = .ok (.aload_n 0, 1) := by decide +kernel
theorem dX5_back_24 : decode cX5_back 24 = .ok (.getfield 12, 3) := by decide +kernel
theorem dX5_back_27 : decode cX5_back 27 = .ok (.aload_n 0, 1) := by decide +kernel
theorem dX5_back_28 : decode cX5_back 28 = .ok (.getfield 23, 3) := by decide +kernel
theorem dX5_back_31 : decode cX5_back 31 = .ok (.iload_n 1, 1) := by decide +kernel
theorem dX5_back_32 : decode cX5_back 32 = .ok (.aaload, 1) := by decide +kernel
theorem dX5_back_33 : decode cX5_back 33 = .ok (.invokevirtual 179, 3) := by decide +kernel
theorem dX5_back_36 : decode cX5_back 36 = .ok (.aload_n 0, 1) := by decide +kernel
theorem dX5_back_37 : decode cX5_back 37 = .ok (.getfield 19, 3) := by decide +kernel
theorem dX5_back_40 : decode cX5_back 40 = .ok (.invokevirtual 182, 3) := by decide +kernel
theorem dX5_back_43 : decode cX5_back 43 = .ok (.aload_n 0, 1) := by decide +kernel
theorem dX5_back_44 : decode cX5_back 44 = .ok (.invokevirtual 61, 3) := by decide +kernel
theorem dX5_back_47 : decode cX5_back 47 = .ok (.aload_n 0, 1) := by decide +kernel
theorem dX5_back_48 : decode cX5_back 48 = .ok (.getfield 12, 3) := by decide +kernel
theorem dX5_back_51 : decode cX5_back 51 = .ok (.getfield 45, 3) := by decide +kernel
theorem dX5_back_54 : decode cX5_back 54 = .ok (.ireturn, 1) := by decide +kernel
theorem dX5_count_0 : decode cX5_count 0 = .ok (.iload_n 1, 1) := by decide +kernel
theorem dX5_count_1 : decode cX5_count 1 = .ok (.tableswitch 108 0 6 #[43, 51, 59, 67, 75, 83, 100], 43) := by decide +kernel
theorem dX5_count_44 : decode cX5_count 44 = .ok (.aload_n 0, 1) := by decide +kernel
theorem dX5_count_45 : decode cX5_count 45 = .ok (.getfield 12, 3) := by decide +kernel
theorem dX5_count_48 : decode cX5_count 48 = .ok (.getfield 45, 3) := by decide +kernel
theorem dX5_count_51 : decode cX5_count 51 = .ok (.ireturn, 1) := by decide +kernel
theorem dX5_count_52 : decode cX5_count 52 = .ok (.aload_n 0, 1) := by decide +kernel
theorem dX5_count_53 : decode cX5_count 53 = .ok (.invokevirtual 113, 3) := by decide +kernel
theorem dX5_count_56 : decode cX5_count 56 = .ok (.getfield 185, 3) := by decide +kernel
theorem dX5_count_59 : decode cX5_count 59 = .ok (.ireturn, 1) := by decide +kernel
theorem dX5_count_60 : decode cX5_count 60 = .ok (.aload_n 0, 1) := by decide +kernel
theorem dX5_count_61 : decode cX5_count 61 = .ok (.invokevirtual 113, 3) := by decide +kernel
theorem dX5_count_64 : decode cX5_count 64 = .ok (.getfield 117, 3) := by decide +kernel
theorem dX5_count_67 : decode cX5_count 67 = .ok (.ireturn, 1) := by decide +kernel
theorem dX5_count_68 : decode cX5_count 68 = .ok (.aload_n 0, 1) := by decide +kernel
theorem dX5_count_69 : decode cX5_count 69 = .ok (.getfield 12, 3) := by decide +kernel
theorem dX5_count_72 : decode cX5_count 72 = .ok (.getfield 68, 3) := by decide +kernel
theorem dX5_count_75 : decode cX5_count 75 = .ok (.ireturn, 1) := by decide +kernel
theorem dX5_count_76 : decode cX5_count 76 = .ok (.aload_n 0, 1) := by decide +kernel
theorem dX5_count_77 : decode cX5_count 77 = .ok (.getfield 12, 3) := by decide +kernel
theorem dX5_count_80 : decode cX5_count 80 = .ok (.getfield 71, 3) := by decide +kernel
theorem dX5_count_83 : decode cX5_count 83 = .ok (.ireturn, 1) := by decide +kernel
theorem dX5_count_84 : decode cX5_count 84 = .ok (.aload_n 0, 1) := by decide +kernel
theorem dX5_count_85 : decode cX5_count 85 = .ok (.getfield 12, 3) := by decide +kernel
theorem dX5_count_88 : decode cX5_count 88 = .ok (.getfield 85, 3) := by decide +kernel
theorem dX5_count_91 : decode cX5_count 91 = .ok (.iconst (-1), 1) := by decide +kernel
theorem dX5_count_92 : decode cX5_count 92 = .ok (.if_icmp .ne 7, 3) := by decide +kernel
theorem dX5_count_95 : decode cX5_count 95 = .ok (.iconst 0, 1) := by decide +kernel
theorem dX5_count_96 : decode cX5_count 96 = .ok (.goto 4, 3) := by decide +kernel
theorem dX5_count_99 : decode cX5_count 99 = .ok (.iconst 1, 1) := by decide +kernel
theorem dX5_count_100 : decode cX5_count 100 = .ok (.ireturn, 1) := by decide +kernel
theorem dX5_count_101 : decode cX5_count 101 = .ok (.aload_n 0, 1) := by decide +kernel
theorem dX5_count_102 : decode cX5_count 102 = .ok (.getfield 19, 3) := by decide +kernel
theorem dX5_count_105 : decode cX5_count 105 = .ok (.getfield 105, 3) := by decide +kernel
theorem dX5_count_108 : decode cX5_count 108 = .ok (.ireturn, 1) := by decide +kernel
theorem dX5_count_109 : decode cX5_count 109 = .ok (.iconst (-1), 1) := by decide +kernel
theorem dX5_count_110 : decode cX5_count 110 = .ok (.ireturn, 1) := by decide +kernel
theorem dX5_symbolOfLength_0 : decode cX5_symbolOfLength 0 = .ok (.iload_n 0, 1) := by decide +kernel
theorem dX5_symbolOfLength_1 : decode cX5_symbolOfLength 1 = .ok (.ifCond .ne 5, 3) := by decide +kernel
theorem dX5_symbolOfLength_4 : decode cX5_symbolOfLength 4 = .ok (.iconst 3, 1) := by decide +kernel
theorem dX5_symbolOfLength_5 : decode cX5_symbolOfLength 5 = .ok (.ireturn, 1) := by decide +kernel
theorem dX5_symbolOfLength_6 : decode cX5_symbolOfLength 6 = .ok (.iload_n 0, 1) := by decide +kernel
theorem dX5_symbolOfLength_7 : decode cX5_symbolOfLength 7 = .ok (.bipush 8, 2) := by decide +kernel
theorem dX5_symbolOfLength_9 : decode cX5_symbolOfLength 9 = .ok (.if_icmp .lt 11, 3) := by decide +kernel
theorem dX5_symbolOfLength_12 : decode cX5_symbolOfLength 12 = .ok (.iload_n 0, 1) := by decide +kernel
theorem dX5_symbolOfLength_13 : decode cX5_symbolOfLength 13 = .ok (.bipush 12, 2) := by decide +kernel
theorem dX5_symbolOfLength_15 : decode cX5_symbolOfLength 15 = .ok (.if_icmp .gt 5, 3) := by decide +kernel
theorem dX5_symbolOfLength_18 : decode cX5_symbolOfLength 18 = .ok (.iconst 0, 1) := by decide +kernel
theorem dX5_symbolOfLength_19 : decode cX5_symbolOfLength 19 = .ok (.ireturn, 1) := by decide +kernel
theorem dX5_symbolOfLength_20 : decode cX5_symbolOfLength 20 = .ok (.iload_n 0, 1) := by decide +kernel
theorem dX5_symbolOfLength_21 : decode cX5_symbolOfLength 21 = .ok (.bipush 18, 2) := by decide +kernel
theorem dX5_symbolOfLength_23 : decode cX5_symbolOfLength 23 = .ok (.if_icmp .lt 13, 3) := by decide +kernel
theorem dX5_symbolOfLength_26 : decode cX5_symbolOfLength 26 = .ok (.iload_n 0, 1) := by decide +kernel
theorem dX5_symbolOfLength_27 : decode cX5_symbolOfLength 27 = .ok (.bipush 22, 2) := by decide +kernel
theorem dX5_symbolOfLength_29 : decode cX5_symbolOfLength 29 = .ok (.if_icmp .gt 7, 3) := by decide +kernel
theorem dX5_symbolOfLength_32 : decode cX5_symbolOfLength 32 = .ok (.iconst 1, 1) := by decide +kernel
theorem dX5_symbolOfLength_33 : decode cX5_symbolOfLength 33 = .ok (.goto 4, 3) := by decide +kernel
theorem dX5_symbolOfLength_36 : decode cX5_symbolOfLength 36 = .ok (.iconst 2, 1) := by decide +kernel
theorem dX5_symbolOfLength_37 : decode cX5_symbolOfLength 37 = .ok (.ireturn, 1) := by decide +kernel
theorem dX5_rowChanged_0 : decode cX5_rowChanged 0 = .ok (.aload_n 0, 1) := by decide +kernel
theorem dX5_rowChanged_1 : decode cX5_rowChanged 1 = .ok (.iconst 0, 1) := by decide +kernel
theorem dX5_rowChanged_2 : decode cX5_rowChanged 2 = .ok (.putfield 188, 3) := by decide +kernel
theorem dX5_rowChanged_5 : decode cX5_rowChanged 5 = .ok (.aload_n 0, 1) := by decide +kernel
theorem dX5_rowChanged_6 : decode cX5_rowChanged 6 = .ok (.iconst 0, 1) := by decide +kernel
theorem dX5_rowChanged_7 : decode cX5_rowChanged 7 = .ok (.putfield 192, 3) := by decide +kernel
theorem dX5_rowChanged_10 : decode cX5_rowChanged 10 = .ok (.return_, 1) := by decide +kernel
theorem dX5_fittingFrames_0 : decode cX5_fittingFrames 0 = .ok (.aload_n 0, 1) := by decide +kernel
theorem dX5_fittingFrames_1 : decode cX5_fittingFrames 1 = .ok (.getfield 188, 3) := by decide +kernel
theorem dX5_fittingFrames_4 : decode cX5_fittingFrames 4 = .ok (.ifCond .ne 19, 3) := by decide +kernel
theorem dX5_fittingFrames_7 : decode cX5_fittingFrames 7 = .ok (.aload_n 0, 1) := by decide +kernel
theorem dX5_fittingFrames_8 : decode cX5_fittingFrames 8 = .ok (.getfield 34, 3) := by decide +kernel
theorem dX5_fittingFrames_11 : decode cX5_fittingFrames 11 = .ok (.aload_n 0, 1) := by decide +kernel
theorem dX5_fittingFrames_12 : decode cX5_fittingFrames 12 = .ok (.getfield 12, 3) := by decide +kernel
theorem dX5_fittingFrames_15 : decode cX5_fittingFrames 15 = .ok (.invokevirtual 195, 3) := by decide +kernel
theorem dX5_fittingFrames_18 : decode cX5_fittingFrames 18 = .ok (.aload_n 0, 1) := by decide +kernel
theorem dX5_fittingFrames_19 : decode cX5_fittingFrames 19 = .ok (.iconst 1, 1) := by decide +kernel
theorem dX5_fittingFrames_20 : decode cX5_fittingFrames 20 = .ok (.putfield 188, 3) := by decide +kernel
theorem dX5_fittingFrames_23 : decode cX5_fittingFrames 23 = .ok (.aload_n 0, 1) := by decide +kernel
theorem dX5_fittingFrames_24 : decode cX5_fittingFrames 24 = .ok (.getfield 34, 3) := by decide +kernel
theorem dX5_fittingFrames_27 : decode cX5_fittingFrames 27 = .ok (.areturn, 1) := by decide +kernel
theorem dX5_fittingVote_0 : decode cX5_fittingVote 0 = .ok (.aload_n 0, 1) := by decide +kernel
theorem dX5_fittingVote_1 : decode cX5_fittingVote 1 = .ok (.getfield 192, 3) := by decide +kernel
theorem dX5_fittingVote_4 : decode cX5_fittingVote 4 = .ok (.ifCond .ne 19, 3) := by decide +kernel
theorem dX5_fittingVote_7 : decode cX5_fittingVote 7 = .ok (.aload_n 0, 1) := by decide +kernel
theorem dX5_fittingVote_8 : decode cX5_fittingVote 8 = .ok (.getfield 41, 3) := by decide +kernel
theorem dX5_fittingVote_11 : decode cX5_fittingVote 11 = .ok (.aload_n 0, 1) := by decide +kernel
theorem dX5_fittingVote_12 : decode cX5_fittingVote 12 = .ok (.invokevirtual 113, 3) := by decide +kernel
theorem dX5_fittingVote_15 : decode cX5_fittingVote 15 = .ok (.invokevirtual 198, 3) := by decide +kernel
theorem dX5_fittingVote_18 : decode cX5_fittingVote 18 = .ok (.aload_n 0, 1) := by decide +kernel
theorem dX5_fittingVote_19 : decode cX5_fittingVote 19 = .ok (.iconst 1, 1) := by decide +kernel
theorem dX5_fittingVote_20 : decode cX5_fittingVote 20 = .ok (.putfield 192, 3) := by decide +kernel
theorem dX5_fittingVote_23 : decode cX5_fittingVote 23 = .ok (.aload_n 0, 1) := by decide +kernel
theorem dX5_fittingVote_24 : decode cX5_fittingVote 24 = .ok (.getfield 41, 3) := by decide +kernel
theorem dX5_fittingVote_27 : decode cX5_fittingVote 27 = .ok (.areturn, 1) := by decide +kernel
theorem dX5_isShown_0 : decode cX5_isShown 0 = .ok (.aload_n 0, 1) := by decide +kernel
theorem dX5_isShown_1 : decode cX5_isShown 1 = .ok (.invokevirtual 113, 3) := by decide +kernel
theorem dX5_isShown_4 : decode cX5_isShown 4 = .ok (.getfield 117, 3) := by decide +kernel
theorem dX5_isShown_7 : decode cX5_isShown 7 = .ok (.ifCond .le 24, 3) := by decide +kernel
theorem dX5_isShown_10 : decode cX5_isShown 10 = .ok (.aload_n 0, 1) := by decide +kernel
theorem dX5_isShown_11 : decode cX5_isShown 11 = .ok (.invokevirtual 78, 3) := by decide +kernel
theorem dX5_isShown_14 : decode cX5_isShown 14 = .ok (.getfield 145, 3) := by decide +kernel
theorem dX5_isShown_17 : decode cX5_isShown 17 = .ok (.aload_n 0, 1) := by decide +kernel
theorem dX5_isShown_18 : decode cX5_isShown 18 = .ok (.getfield 12, 3) := by decide +kernel
theorem dX5_isShown_21 : decode cX5_isShown 21 = .ok (.getfield 68, 3) := by decide +kernel
theorem dX5_isShown_24 : decode cX5_isShown 24 = .ok (.if_icmp .lt 7, 3) := by decide +kernel
theorem dX5_isShown_27 : decode cX5_isShown 27 = .ok (.iconst 1, 1) := by decide +kernel
theorem dX5_isShown_28 : decode cX5_isShown 28 = .ok (.goto 4, 3) := by decide +kernel
theorem dX5_isShown_31 : decode cX5_isShown 31 = .ok (.iconst 0, 1) := by decide +kernel
theorem dX5_isShown_32 : decode cX5_isShown 32 = .ok (.ireturn, 1) := by decide +kernel
theorem dX5_drifted_0 : decode cX5_drifted 0 = .ok (.aload_n 0, 1) := by decide +kernel
theorem dX5_drifted_1 : decode cX5_drifted 1 = .ok (.getfield 12, 3) := by decide +kernel
theorem dX5_drifted_4 : decode cX5_drifted 4 = .ok (.getfield 71, 3) := by decide +kernel
theorem dX5_drifted_7 : decode cX5_drifted 7 = .ok (.aload_n 0, 1) := by decide +kernel
theorem dX5_drifted_8 : decode cX5_drifted 8 = .ok (.getfield 12, 3) := by decide +kernel
theorem dX5_drifted_11 : decode cX5_drifted 11 = .ok (.getfield 88, 3) := by decide +kernel
theorem dX5_drifted_14 : decode cX5_drifted 14 = .ok (.imul, 1) := by decide +kernel
theorem dX5_drifted_15 : decode cX5_drifted 15 = .ok (.ireturn, 1) := by decide +kernel
theorem dX5_apart_0 : decode cX5_apart 0 = .ok (.aload_n 0, 1) := by decide +kernel
theorem dX5_apart_1 : decode cX5_apart 1 = .ok (.invokevirtual 113, 3) := by decide +kernel
theorem dX5_apart_4 : decode cX5_apart 4 = .ok (.getfield 117, 3) := by decide +kernel
theorem dX5_apart_7 : decode cX5_apart 7 = .ok (.ifCond .ne 6, 3) := by decide +kernel
theorem dX5_apart_10 : decode cX5_apart 10 = .ok (.ldc 171, 2) := by decide +kernel
theorem dX5_apart_12 : decode cX5_apart 12 = .ok (.ireturn, 1) := by decide +kernel
theorem dX5_apart_13 : decode cX5_apart 13 = .ok (.aload_n 0, 1) := by decide +kernel
theorem dX5_apart_14 : decode cX5_apart 14 = .ok (.getfield 12, 3) := by decide +kernel
theorem dX5_apart_17 : decode cX5_apart 17 = .ok (.getfield 85, 3) := by decide +kernel
theorem dX5_apart_20 : decode cX5_apart 20 = .ok (.invokestatic 91, 3) := by decide +kernel
theorem dX5_apart_23 : decode cX5_apart 23 = .ok (.aload_n 0, 1) := by decide +kernel
theorem dX5_apart_24 : decode cX5_apart 24 = .ok (.invokevirtual 78, 3) := by decide +kernel
theorem dX5_apart_27 : decode cX5_apart 27 = .ok (.getfield 82, 3) := by decide +kernel
theorem dX5_apart_30 : decode cX5_apart 30 = .ok (.invokestatic 91, 3) := by decide +kernel
theorem dX5_apart_33 : decode cX5_apart 33 = .ok (.isub, 1) := by decide +kernel
theorem dX5_apart_34 : decode cX5_apart 34 = .ok (.istore_n 1, 1) := by decide +kernel
theorem dX5_apart_35 : decode cX5_apart 35 = .ok (.iload_n 1, 1) := by decide +kernel
theorem dX5_apart_36 : decode cX5_apart 36 = .ok (.sipush 1440, 3) := by decide +kernel
theorem dX5_apart_39 : decode cX5_apart 39 = .ok (.invokestatic 202, 3) := by decide +kernel
theorem dX5_apart_42 : decode cX5_apart 42 = .ok (.istore_n 2, 1) := by decide +kernel
theorem dX5_apart_43 : decode cX5_apart 43 = .ok (.iload_n 2, 1) := by decide +kernel
theorem dX5_apart_44 : decode cX5_apart 44 = .ok (.sipush 720, 3) := by decide +kernel
theorem dX5_apart_47 : decode cX5_apart 47 = .ok (.if_icmp .le 11, 3) := by decide +kernel
theorem dX5_apart_50 : decode cX5_apart 50 = .ok (.iload_n 2, 1) := by decide +kernel
theorem dX5_apart_51 : decode cX5_apart 51 = .ok (.sipush 1440, 3) := by decide +kernel
theorem dX5_apart_54 : decode cX5_apart 54 = .ok (.isub, 1) := by decide +kernel
theorem dX5_apart_55 : decode cX5_apart 55 = .ok (.goto 4, 3) := by decide +kernel
theorem dX5_apart_58 : decode cX5_apart 58 = .ok (.iload_n 2, 1) := by decide +kernel
theorem dX5_apart_59 : decode cX5_apart 59 = .ok (.ireturn, 1) := by decide +kernel
