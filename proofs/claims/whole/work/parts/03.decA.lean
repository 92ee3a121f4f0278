theorem dX0_init_0 : decode cX0_init 0 = .ok (.aload_n 0, 1) := by decide +kernel
theorem dX0_init_1 : decode cX0_init 1 = .ok (.invokespecial 3, 3) := by decide +kernel
theorem dX0_init_4 : decode cX0_init 4 = .ok (.aload_n 0, 1) := by decide +kernel
theorem dX0_init_5 : decode cX0_init 5 = .ok (.bipush 20, 2) := by decide +kernel
theorem dX0_init_7 : decode cX0_init 7 = .ok (.newarray .int, 2) := by decide +kernel
theorem dX0_init_9 : decode cX0_init 9 = .ok (.putfield 9, 3) := by decide +kernel
theorem dX0_init_12 : decode cX0_init 12 = .ok (.aload_n 0, 1) := by decide +kernel
theorem dX0_init_13 : decode cX0_init 13 = .ok (.bipush 6, 2) := by decide +kernel
theorem dX0_init_15 : decode cX0_init 15 = .ok (.newarray .int, 2) := by decide +kernel
theorem dX0_init_17 : decode cX0_init 17 = .ok (.putfield 15, 3) := by decide +kernel
theorem dX0_init_20 : decode cX0_init 20 = .ok (.aload_n 0, 1) := by decide +kernel
theorem dX0_init_21 : decode cX0_init 21 = .ok (.bipush 6, 2) := by decide +kernel
theorem dX0_init_23 : decode cX0_init 23 = .ok (.newarray .int, 2) := by decide +kernel
theorem dX0_init_25 : decode cX0_init 25 = .ok (.putfield 18, 3) := by decide +kernel
theorem dX0_init_28 : decode cX0_init 28 = .ok (.return_, 1) := by decide +kernel
theorem dX0_cut_0 : decode cX0_cut 0 = .ok (.aload_n 0, 1) := by decide +kernel
theorem dX0_cut_1 : decode cX0_cut 1 = .ok (.aload_n 1, 1) := by decide +kernel
theorem dX0_cut_2 : decode cX0_cut 2 = .ok (.invokevirtual 21, 3) := by decide +kernel
theorem dX0_cut_5 : decode cX0_cut 5 = .ok (.aload_n 0, 1) := by decide +kernel
theorem dX0_cut_6 : decode cX0_cut 6 = .ok (.iconst 0, 1) := by decide +kernel
theorem dX0_cut_7 : decode cX0_cut 7 = .ok (.invokevirtual 25, 3) := by decide +kernel
theorem dX0_cut_10 : decode cX0_cut 10 = .ok (.istore_n 2, 1) := by decide +kernel
theorem dX0_cut_11 : decode cX0_cut 11 = .ok (.aload_n 0, 1) := by decide +kernel
theorem dX0_cut_12 : decode cX0_cut 12 = .ok (.iconst 0, 1) := by decide +kernel
theorem dX0_cut_13 : decode cX0_cut 13 = .ok (.putfield 29, 3) := by decide +kernel
theorem dX0_cut_16 : decode cX0_cut 16 = .ok (.aload_n 0, 1) := by decide +kernel
theorem dX0_cut_17 : decode cX0_cut 17 = .ok (.getfield 29, 3) := by decide +kernel
theorem dX0_cut_20 : decode cX0_cut 20 = .ok (.bipush 6, 2) := by decide +kernel
theorem dX0_cut_22 : decode cX0_cut 22 = .ok (.if_icmp .ge 36, 3) := by decide +kernel
theorem dX0_cut_25 : decode cX0_cut 25 = .ok (.iload_n 2, 1) := by decide +kernel
theorem dX0_cut_26 : decode cX0_cut 26 = .ok (.bipush 19, 2) := by decide +kernel
theorem dX0_cut_28 : decode cX0_cut 28 = .ok (.iadd, 1) := by decide +kernel
theorem dX0_cut_29 : decode cX0_cut 29 = .ok (.aload_n 1, 1) := by decide +kernel
theorem dX0_cut_30 : decode cX0_cut 30 = .ok (.getfield 33, 3) := by decide +kernel
theorem dX0_cut_33 : decode cX0_cut 33 = .ok (.if_icmp .gt 25, 3) := by decide +kernel
theorem dX0_cut_36 : decode cX0_cut 36 = .ok (.aload_n 0, 1) := by decide +kernel
theorem dX0_cut_37 : decode cX0_cut 37 = .ok (.aload_n 1, 1) := by decide +kernel
theorem dX0_cut_38 : decode cX0_cut 38 = .ok (.iload_n 2, 1) := by decide +kernel
theorem dX0_cut_39 : decode cX0_cut 39 = .ok (.invokevirtual 38, 3) := by decide +kernel
theorem dX0_cut_42 : decode cX0_cut 42 = .ok (.aload_n 0, 1) := by decide +kernel
theorem dX0_cut_43 : decode cX0_cut 43 = .ok (.dup, 1) := by decide +kernel
theorem dX0_cut_44 : decode cX0_cut 44 = .ok (.getfield 29, 3) := by decide +kernel
theorem dX0_cut_47 : decode cX0_cut 47 = .ok (.iconst 1, 1) := by decide +kernel
theorem dX0_cut_48 : decode cX0_cut 48 = .ok (.iadd, 1) := by decide +kernel
theorem dX0_cut_49 : decode cX0_cut 49 = .ok (.putfield 29, 3) := by decide +kernel
theorem dX0_cut_52 : decode cX0_cut 52 = .ok (.iinc 2 20, 3) := by decide +kernel
theorem dX0_cut_55 : decode cX0_cut 55 = .ok (.goto (-39), 3) := by decide +kernel
theorem dX0_cut_58 : decode cX0_cut 58 = .ok (.return_, 1) := by decide +kernel
theorem dX0_findPhase_0 : decode cX0_findPhase 0 = .ok (.iconst 0, 1) := by decide +kernel
theorem dX0_findPhase_1 : decode cX0_findPhase 1 = .ok (.istore_n 2, 1) := by decide +kernel
theorem dX0_findPhase_2 : decode cX0_findPhase 2 = .ok (.iload_n 2, 1) := by decide +kernel
theorem dX0_findPhase_3 : decode cX0_findPhase 3 = .ok (.bipush 20, 2) := by decide +kernel
theorem dX0_findPhase_5 : decode cX0_findPhase 5 = .ok (.if_icmp .ge 16, 3) := by decide +kernel
theorem dX0_findPhase_8 : decode cX0_findPhase 8 = .ok (.aload_n 0, 1) := by decide +kernel
theorem dX0_findPhase_9 : decode cX0_findPhase 9 = .ok (.getfield 9, 3) := by decide +kernel
theorem dX0_findPhase_12 : decode cX0_findPhase 12 = .ok (.iload_n 2, 1) := by decide +kernel
theorem dX0_findPhase_13 : decode cX0_findPhase 13 = .ok (.iconst 0, 1) := by decide +kernel
theorem dX0_findPhase_14 : decode cX0_findPhase 14 = .ok (.iastore, 1) := by decide +kernel
theorem dX0_findPhase_15 : decode cX0_findPhase 15 = .ok (.iinc 2 1, 3) := by decide +kernel
theorem dX0_findPhase_18 : decode cX0_findPhase 18 = .ok (.goto (-16), 3) := by decide +kernel
theorem dX0_findPhase_21 : decode cX0_findPhase 21 = .ok (.iconst 0, 1) := by decide +kernel
theorem dX0_findPhase_22 : decode cX0_findPhase 22 = .ok (.istore_n 2, 1) := by decide +kernel
theorem dX0_findPhase_23 : decode cX0_findPhase 23 = .ok (.iload_n 2, 1) := by decide +kernel
theorem dX0_findPhase_24 : decode cX0_findPhase 24 = .ok (.aload_n 1, 1) := by decide +kernel
theorem dX0_findPhase_25 : decode cX0_findPhase 25 = .ok (.getfield 33, 3) := by decide +kernel
theorem dX0_findPhase_28 : decode cX0_findPhase 28 = .ok (.if_icmp .ge 32, 3) := by decide +kernel
theorem dX0_findPhase_31 : decode cX0_findPhase 31 = .ok (.aload_n 1, 1) := by decide +kernel
theorem dX0_findPhase_32 : decode cX0_findPhase 32 = .ok (.getfield 42, 3) := by decide +kernel
theorem dX0_findPhase_35 : decode cX0_findPhase 35 = .ok (.iload_n 2, 1) := by decide +kernel
theorem dX0_findPhase_36 : decode cX0_findPhase 36 = .ok (.baload, 1) := by decide +kernel
theorem dX0_findPhase_37 : decode cX0_findPhase 37 = .ok (.iconst 3, 1) := by decide +kernel
theorem dX0_findPhase_38 : decode cX0_findPhase 38 = .ok (.if_icmp .ne 16, 3) := by decide +kernel
theorem dX0_findPhase_41 : decode cX0_findPhase 41 = .ok (.aload_n 0, 1) := by decide +kernel
theorem dX0_findPhase_42 : decode cX0_findPhase 42 = .ok (.getfield 9, 3) := by decide +kernel
theorem dX0_findPhase_45 : decode cX0_findPhase 45 = .ok (.iload_n 2, 1) := by decide +kernel
theorem dX0_findPhase_46 : decode cX0_findPhase 46 = .ok (.bipush 20, 2) := by decide +kernel
theorem dX0_findPhase_48 : decode cX0_findPhase 48 = .ok (.irem, 1) := by decide +kernel
theorem dX0_findPhase_49 : decode cX0_findPhase 49 = .ok (.dup2, 1) := by decide +kernel
theorem dX0_findPhase_50 : decode cX0_findPhase 50 = .ok (.iaload, 1) := by decide +kernel
theorem dX0_findPhase_51 : decode cX0_findPhase 51 = .ok (.iconst 1, 1) := by decide +kernel
theorem dX0_findPhase_52 : decode cX0_findPhase 52 = .ok (.iadd, 1) := by decide +kernel
theorem dX0_findPhase_53 : decode cX0_findPhase 53 = .ok (.iastore, 1) := by decide +kernel
theorem dX0_findPhase_54 : decode cX0_findPhase 54 = .ok (.iinc 2 1, 3) := by decide +kernel
theorem dX0_findPhase_57 : decode cX0_findPhase 57 = .ok (.goto (-34), 3) := by decide +kernel
theorem dX0_findPhase_60 : decode cX0_findPhase 60 = .ok (.aload_n 0, 1) := by decide +kernel
theorem dX0_findPhase_61 : decode cX0_findPhase 61 = .ok (.iconst 0, 1) := by decide +kernel
theorem dX0_findPhase_62 : decode cX0_findPhase 62 = .ok (.putfield 46, 3) := by decide +kernel
theorem dX0_findPhase_65 : decode cX0_findPhase 65 = .ok (.iconst 1, 1) := by decide +kernel
theorem dX0_findPhase_66 : decode cX0_findPhase 66 = .ok (.istore_n 2, 1) := by decide +kernel
theorem dX0_findPhase_67 : decode cX0_findPhase 67 = .ok (.iload_n 2, 1) := by decide +kernel
theorem dX0_findPhase_68 : decode cX0_findPhase 68 = .ok (.bipush 20, 2) := by decide +kernel
theorem dX0_findPhase_70 : decode cX0_findPhase 70 = .ok (.if_icmp .ge 32, 3) := by decide +kernel
theorem dX0_findPhase_73 : decode cX0_findPhase 73 = .ok (.aload_n 0, 1) := by decide +kernel
theorem dX0_findPhase_74 : decode cX0_findPhase 74 = .ok (.getfield 9, 3) := by decide +kernel
theorem dX0_findPhase_77 : decode cX0_findPhase 77 = .ok (.iload_n 2, 1) := by decide +kernel
theorem dX0_findPhase_78 : decode cX0_findPhase 78 = .ok (.iaload, 1) := by decide +kernel
theorem dX0_findPhase_79 : decode cX0_findPhase 79 = .ok (.aload_n 0, 1) := by decide +kernel
theorem dX0_findPhase_80 : decode cX0_findPhase 80 = .ok (.getfield 9, 3) := by decide +kernel
theorem dX0_findPhase_83 : decode cX0_findPhase 83 = .ok (.aload_n 0, 1) := by decide +kernel
theorem dX0_findPhase_84 : decode cX0_findPhase 84 = .ok (.getfield 46, 3) := by decide +kernel
theorem dX0_findPhase_87 : decode cX0_findPhase 87 = .ok (.iaload, 1) := by decide +kernel
theorem dX0_findPhase_88 : decode cX0_findPhase 88 = .ok (.if_icmp .le 8, 3) := by decide +kernel
theorem dX0_findPhase_91 : decode cX0_findPhase 91 = .ok (.aload_n 0, 1) := by decide +kernel
theorem dX0_findPhase_92 : decode cX0_findPhase 92 = .ok (.iload_n 2, 1) := by decide +kernel
theorem dX0_findPhase_93 : decode cX0_findPhase 93 = .ok (.putfield 46, 3) := by decide +kernel
theorem dX0_findPhase_96 : decode cX0_findPhase 96 = .ok (.iinc 2 1, 3) := by decide +kernel
theorem dX0_findPhase_99 : decode cX0_findPhase 99 = .ok (.goto (-32), 3) := by decide +kernel
theorem dX0_findPhase_102 : decode cX0_findPhase 102 = .ok (.return_, 1) := by decide +kernel
theorem dX0_takeFrame_0 : decode cX0_takeFrame 0 = .ok (.iconst 0, 1) := by decide +kernel
theorem dX0_takeFrame_1 : decode cX0_takeFrame 1 = .ok (.istore_n 3, 1) := by decide +kernel
theorem dX0_takeFrame_2 : decode cX0_takeFrame 2 = .ok (.iconst 0, 1) := by decide +kernel
theorem dX0_takeFrame_3 : decode cX0_takeFrame 3 = .ok (.istore 4, 2) := by decide +kernel
theorem dX0_takeFrame_5 : decode cX0_takeFrame 5 = .ok (.iconst 0, 1) := by decide +kernel
theorem dX0_takeFrame_6 : decode cX0_takeFrame 6 = .ok (.istore 5, 2) := by decide +kernel
theorem dX0_takeFrame_8 : decode cX0_takeFrame 8 = .ok (.iload 5, 2) := by decide +kernel
theorem dX0_takeFrame_10 : decode cX0_takeFrame 10 = .ok (.bipush 19, 2) := by decide +kernel
theorem dX0_takeFrame_12 : decode cX0_takeFrame 12 = .ok (.if_icmp .ge 53, 3) := by decide +kernel
theorem dX0_takeFrame_15 : decode cX0_takeFrame 15 = .ok (.aload_n 1, 1) := by decide +kernel
theorem dX0_takeFrame_16 : decode cX0_takeFrame 16 = .ok (.getfield 42, 3) := by decide +kernel
theorem dX0_takeFrame_19 : decode cX0_takeFrame 19 = .ok (.iload_n 2, 1) := by decide +kernel
theorem dX0_takeFrame_20 : decode cX0_takeFrame 20 = .ok (.iload 5, 2) := by decide +kernel
theorem dX0_takeFrame_22 : decode cX0_takeFrame 22 = .ok (.iadd, 1) := by decide +kernel
theorem dX0_takeFrame_23 : decode cX0_takeFrame 23 = .ok (.baload, 1) := by decide +kernel
theorem dX0_takeFrame_24 : decode cX0_takeFrame 24 = .ok (.istore 6, 2) := by decide +kernel
theorem dX0_takeFrame_26 : decode cX0_takeFrame 26 = .ok (.iload 6, 2) := by decide +kernel
theorem dX0_takeFrame_28 : decode cX0_takeFrame 28 = .ok (.iconst 1, 1) := by decide +kernel
theorem dX0_takeFrame_29 : decode cX0_takeFrame 29 = .ok (.if_icmp .ne 10, 3) := by decide +kernel
theorem dX0_takeFrame_32 : decode cX0_takeFrame 32 = .ok (.iload_n 3, 1) := by decide +kernel
theorem dX0_takeFrame_33 : decode cX0_takeFrame 33 = .ok (.iconst 1, 1) := by decide +kernel
theorem dX0_takeFrame_34 : decode cX0_takeFrame 34 = .ok (.iload 5, 2) := by decide +kernel
theorem dX0_takeFrame_36 : decode cX0_takeFrame 36 = .ok (.ishl, 1) := by decide +kernel
theorem dX0_takeFrame_37 : decode cX0_takeFrame 37 = .ok (.ior, 1) := by decide +kernel
theorem dX0_takeFrame_38 : decode cX0_takeFrame 38 = .ok (.istore_n 3, 1) := by decide +kernel
theorem dX0_takeFrame_39 : decode cX0_takeFrame 39 = .ok (.iload 6, 2) := by decide +kernel
theorem dX0_takeFrame_41 : decode cX0_takeFrame 41 = .ok (.iconst 1, 1) := by decide +kernel
theorem dX0_takeFrame_42 : decode cX0_takeFrame 42 = .ok (.if_icmp .eq 8, 3) := by decide +kernel
theorem dX0_takeFrame_45 : decode cX0_takeFrame 45 = .ok (.iload 6, 2) := by decide +kernel
theorem dX0_takeFrame_47 : decode cX0_takeFrame 47 = .ok (.ifCond .ne 12, 3) := by decide +kernel
theorem dX0_takeFrame_50 : decode cX0_takeFrame 50 = .ok (.iload 4, 2) := by decide +kernel
theorem dX0_takeFrame_52 : decode cX0_takeFrame 52 = .ok (.iconst 1, 1) := by decide +kernel
theorem dX0_takeFrame_53 : decode cX0_takeFrame 53 = .ok (.iload 5, 2) := by decide +kernel
theorem dX0_takeFrame_55 : decode cX0_takeFrame 55 = .ok (.ishl, 1) := by decide +kernel
theorem dX0_takeFrame_56 : decode cX0_takeFrame 56 = .ok (.ior, 1) := by decide +kernel
theorem dX0_takeFrame_57 : decode cX0_takeFrame 57 = .ok (.istore 4, 2) := by decide +kernel
theorem dX0_takeFrame_59 : decode cX0_takeFrame 59 = .ok (.iinc 5 1, 3) := by decide +kernel
theorem dX0_takeFrame_62 : decode cX0_takeFrame 62 = .ok (.goto (-54), 3) := by decide +kernel
theorem dX0_takeFrame_65 : decode cX0_takeFrame 65 = .ok (.aload_n 0, 1) := by decide +kernel
theorem dX0_takeFrame_66 : decode cX0_takeFrame 66 = .ok (.getfield 15, 3) := by decide +kernel
theorem dX0_takeFrame_69 : decode cX0_takeFrame 69 = .ok (.aload_n 0, 1) := by decide +kernel
theorem dX0_takeFrame_70 : decode cX0_takeFrame 70 = .ok (.getfield 29, 3) := by decide +kernel
theorem dX0_takeFrame_73 : decode cX0_takeFrame 73 = .ok (.iload_n 3, 1) := by decide +kernel
theorem dX0_takeFrame_74 : decode cX0_takeFrame 74 = .ok (.iastore, 1) := by decide +kernel
theorem dX0_takeFrame_75 : decode cX0_takeFrame 75 = .ok (.aload_n 0, 1) := by decide +kernel
theorem dX0_takeFrame_76 : decode cX0_takeFrame 76 = .ok (.getfield 18, 3) := by decide +kernel
theorem dX0_takeFrame_79 : decode cX0_takeFrame 79 = .ok (.aload_n 0, 1) := by decide +kernel
theorem dX0_takeFrame_80 : decode cX0_takeFrame 80 = .ok (.getfield 29, 3) := by decide +kernel
theorem dX0_takeFrame_83 : decode cX0_takeFrame 83 = .ok (.iload 4, 2) := by decide +kernel
theorem dX0_takeFrame_85 : decode cX0_takeFrame 85 = .ok (.iastore, 1) := by decide +kernel
theorem dX0_takeFrame_86 : decode cX0_takeFrame 86 = .ok (.return_, 1) := by decide +kernel
theorem dX0_firstOf_0 : decode cX0_firstOf 0 = .ok (.aload_n 0, 1) := by decide +kernel
theorem dX0_firstOf_1 : decode cX0_firstOf 1 = .ok (.getfield 46, 3) := by decide +kernel
theorem dX0_firstOf_4 : decode cX0_firstOf 4 = .ok (.iconst 1, 1) := by decide +kernel
theorem dX0_firstOf_5 : decode cX0_firstOf 5 = .ok (.iadd, 1) := by decide +kernel
theorem dX0_firstOf_6 : decode cX0_firstOf 6 = .ok (.bipush 20, 2) := by decide +kernel
theorem dX0_firstOf_8 : decode cX0_firstOf 8 = .ok (.irem, 1) := by decide +kernel
theorem dX0_firstOf_9 : decode cX0_firstOf 9 = .ok (.bipush 20, 2) := by decide +kernel
theorem dX0_firstOf_11 : decode cX0_firstOf 11 = .ok (.iload_n 1, 1) := by decide +kernel
theorem dX0_firstOf_12 : decode cX0_firstOf 12 = .ok (.imul, 1) := by decide +kernel
theorem dX0_firstOf_13 : decode cX0_firstOf 13 = .ok (.iadd, 1) := by decide +kernel
theorem dX0_firstOf_14 : decode cX0_firstOf 14 = .ok (.ireturn, 1) := by decide +kernel
theorem dX0_allClear_0 : decode cX0_allClear 0 = .ok (.aload_n 0, 1) := by decide +kernel
theorem dX0_allClear_1 : decode cX0_allClear 1 = .ok (.getfield 18, 3) := by decide +kernel
theorem dX0_allClear_4 : decode cX0_allClear 4 = .ok (.iload_n 1, 1) := by decide +kernel
theorem dX0_allClear_5 : decode cX0_allClear 5 = .ok (.iaload, 1) := by decide +kernel
theorem dX0_allClear_6 : decode cX0_allClear 6 = .ok (.iload_n 2, 1) := by decide +kernel
theorem dX0_allClear_7 : decode cX0_allClear 7 = .ok (.iand, 1) := by decide +kernel
theorem dX0_allClear_8 : decode cX0_allClear 8 = .ok (.iload_n 2, 1) := by decide +kernel
theorem dX0_allClear_9 : decode cX0_allClear 9 = .ok (.if_icmp .ne 7, 3) := by decide +kernel
theorem dX0_allClear_12 : decode cX0_allClear 12 = .ok (.iconst 1, 1) := by decide +kernel
theorem dX0_allClear_13 : decode cX0_allClear 13 = .ok (.goto 4, 3) := by decide +kernel
theorem dX0_allClear_16 : decode cX0_allClear 16 = .ok (.iconst 0, 1) := by decide +kernel
theorem dX0_allClear_17 : decode cX0_allClear 17 = .ok (.ireturn, 1) := by decide +kernel
theorem dX0_parity_0 : decode cX0_parity 0 = .ok (.aload_n 0, 1) := by decide +kernel
theorem dX0_parity_1 : decode cX0_parity 1 = .ok (.iload_n 1, 1) := by decide +kernel
theorem dX0_parity_2 : decode cX0_parity 2 = .ok (.iload_n 2, 1) := by decide +kernel
theorem dX0_parity_3 : decode cX0_parity 3 = .ok (.invokevirtual 49, 3) := by decide +kernel
theorem dX0_parity_6 : decode cX0_parity 6 = .ok (.ifCond .ne 5, 3) := by decide +kernel
theorem dX0_parity_9 : decode cX0_parity 9 = .ok (.iconst 2, 1) := by decide +kernel
theorem dX0_parity_10 : decode cX0_parity 10 = .ok (.ireturn, 1) := by decide +kernel
theorem dX0_parity_11 : decode cX0_parity 11 = .ok (.aload_n 0, 1) := by decide +kernel
theorem dX0_parity_12 : decode cX0_parity 12 = .ok (.getfield 15, 3) := by decide +kernel
theorem dX0_parity_15 : decode cX0_parity 15 = .ok (.iload_n 1, 1) := by decide +kernel
theorem dX0_parity_16 : decode cX0_parity 16 = .ok (.iaload, 1) := by decide +kernel
theorem dX0_parity_17 : decode cX0_parity 17 = .ok (.iload_n 2, 1) := by decide +kernel
theorem dX0_parity_18 : decode cX0_parity 18 = .ok (.iand, 1) := by decide +kernel
theorem dX0_parity_19 : decode cX0_parity 19 = .ok (.invokestatic 53, 3) := by decide +kernel
theorem dX0_parity_22 : decode cX0_parity 22 = .ok (.iconst 2, 1) := by decide +kernel
theorem dX0_parity_23 : decode cX0_parity 23 = .ok (.irem, 1) := by decide +kernel
theorem dX0_parity_24 : decode cX0_parity 24 = .ok (.ifCond .ne 7, 3) := by decide +kernel
theorem dX0_parity_27 : decode cX0_parity 27 = .ok (.iconst 1, 1) := by decide +kernel
theorem dX0_parity_28 : decode cX0_parity 28 = .ok (.goto 4, 3) := by decide +kernel
theorem dX0_parity_31 : decode cX0_parity 31 = .ok (.iconst 0, 1) := by decide +kernel
theorem dX0_parity_32 : decode cX0_parity 32 = .ok (.ireturn, 1) := by decide +kernel
theorem dX0_minuteOfHour_0 : decode cX0_minuteOfHour 0 = .ok (.aload_n 0, 1) := by decide +kernel
theorem dX0_minuteOfHour_1 : decode cX0_minuteOfHour 1 = .ok (.iload_n 1, 1) := by decide +kernel
theorem dX0_minuteOfHour_2 : decode cX0_minuteOfHour 2 = .ok (.sipush 2032, 3) := by decide +kernel
theorem dX0_minuteOfHour_5 : decode cX0_minuteOfHour 5 = .ok (.invokevirtual 49, 3) := by decide +kernel
theorem dX0_minuteOfHour_8 : decode cX0_minuteOfHour 8 = .ok (.ifCond .ne 6, 3) := by decide +kernel
theorem dX0_minuteOfHour_11 : decode cX0_minuteOfHour 11 = .ok (.bipush (-9), 2) := by decide +kernel
theorem dX0_minuteOfHour_13 : decode cX0_minuteOfHour 13 = .ok (.ireturn, 1) := by decide +kernel
theorem dX0_minuteOfHour_14 : decode cX0_minuteOfHour 14 = .ok (.aload_n 0, 1) := by decide +kernel
theorem dX0_minuteOfHour_15 : decode cX0_minuteOfHour 15 = .ok (.getfield 15, 3) := by decide +kernel
theorem dX0_minuteOfHour_18 : decode cX0_minuteOfHour 18 = .ok (.iload_n 1, 1) := by decide +kernel
theorem dX0_minuteOfHour_19 : decode cX0_minuteOfHour 19 = .ok (.iaload, 1) := by decide +kernel
theorem dX0_minuteOfHour_20 : decode cX0_minuteOfHour 20 = .ok (.bipush 8, 2) := by decide +kernel
theorem dX0_minuteOfHour_22 : decode cX0_minuteOfHour 22 = .ok (.ishr, 1) := by decide +kernel
theorem dX0_minuteOfHour_23 : decode cX0_minuteOfHour 23 = .ok (.bipush 7, 2) := by decide +kernel
theorem dX0_minuteOfHour_25 : decode cX0_minuteOfHour 25 = .ok (.iand, 1) := by decide +kernel
theorem dX0_minuteOfHour_26 : decode cX0_minuteOfHour 26 = .ok (.aload_n 0, 1) := by decide +kernel
theorem dX0_minuteOfHour_27 : decode cX0_minuteOfHour 27 = .ok (.getfield 15, 3) := by decide +kernel
theorem dX0_minuteOfHour_30 : decode cX0_minuteOfHour 30 = .ok (.iload_n 1, 1) := by decide +kernel
theorem dX0_minuteOfHour_31 : decode cX0_minuteOfHour 31 = .ok (.iaload, 1) := by decide +kernel
theorem dX0_minuteOfHour_32 : decode cX0_minuteOfHour 32 = .ok (.iconst 4, 1) := by decide +kernel
theorem dX0_minuteOfHour_33 : decode cX0_minuteOfHour 33 = .ok (.ishr, 1) := by decide +kernel
theorem dX0_minuteOfHour_34 : decode cX0_minuteOfHour 34 = .ok (.bipush 15, 2) := by decide +kernel
theorem dX0_minuteOfHour_36 : decode cX0_minuteOfHour 36 = .ok (.iand, 1) := by decide +kernel
theorem dX0_minuteOfHour_37 : decode cX0_minuteOfHour 37 = .ok (.bipush 60, 2) := by decide +kernel
theorem dX0_minuteOfHour_39 : decode cX0_minuteOfHour 39 = .ok (.invokestatic 58, 3) := by decide +kernel
theorem dX0_minuteOfHour_42 : decode cX0_minuteOfHour 42 = .ok (.ireturn, 1) := by decide +kernel
theorem dX0_hour_0 : decode cX0_hour 0 = .ok (.aload_n 0, 1) := by decide +kernel
theorem dX0_hour_1 : decode cX0_hour 1 = .ok (.iload_n 1, 1) := by decide +kernel
theorem dX0_hour_2 : decode cX0_hour 2 = .ok (.ldc 62, 2) := by decide +kernel
theorem dX0_hour_4 : decode cX0_hour 4 = .ok (.invokevirtual 49, 3) := by decide +kernel
theorem dX0_hour_7 : decode cX0_hour 7 = .ok (.ifCond .ne 6, 3) := by decide +kernel
theorem dX0_hour_10 : decode cX0_hour 10 = .ok (.bipush (-9), 2) := by decide +kernel
theorem dX0_hour_12 : decode cX0_hour 12 = .ok (.ireturn, 1) := by decide +kernel
theorem dX0_hour_13 : decode cX0_hour 13 = .ok (.aload_n 0, 1) := by decide +kernel
theorem dX0_hour_14 : decode cX0_hour 14 = .ok (.getfield 15, 3) := by decide +kernel
theorem dX0_hour_17 : decode cX0_hour 17 = .ok (.iload_n 1, 1) := by decide +kernel
theorem dX0_hour_18 : decode cX0_hour 18 = .ok (.iaload, 1) := by decide +kernel
theorem dX0_hour_19 : decode cX0_hour 19 = .ok (.bipush 16, 2) := by decide +kernel
theorem dX0_hour_21 : decode cX0_hour 21 = .ok (.ishr, 1) := by decide +kernel
theorem dX0_hour_22 : decode cX0_hour 22 = .ok (.iconst 3, 1) := by decide +kernel
theorem dX0_hour_23 : decode cX0_hour 23 = .ok (.iand, 1) := by decide +kernel
theorem dX0_hour_24 : decode cX0_hour 24 = .ok (.aload_n 0, 1) := by decide +kernel
theorem dX0_hour_25 : decode cX0_hour 25 = .ok (.getfield 15, 3) := by decide +kernel
theorem dX0_hour_28 : decode cX0_hour 28 = .ok (.iload_n 1, 1) := by decide +kernel
theorem dX0_hour_29 : decode cX0_hour 29 = .ok (.iaload, 1) := by decide +kernel
theorem dX0_hour_30 : decode cX0_hour 30 = .ok (.bipush 12, 2) := by decide +kernel
theorem dX0_hour_32 : decode cX0_hour 32 = .ok (.ishr, 1) := by decide +kernel
theorem dX0_hour_33 : decode cX0_hour 33 = .ok (.bipush 15, 2) := by decide +kernel
theorem dX0_hour_35 : decode cX0_hour 35 = .ok (.iand, 1) := by decide +kernel
theorem dX0_hour_36 : decode cX0_hour 36 = .ok (.bipush 24, 2) := by decide +kernel
theorem dX0_hour_38 : decode cX0_hour 38 = .ok (.invokestatic 58, 3) := by decide +kernel
theorem dX0_hour_41 : decode cX0_hour 41 = .ok (.ireturn, 1) := by decide +kernel
theorem dX0_byFigures_0 : decode cX0_byFigures 0 = .ok (.bipush 10, 2) := by decide +kernel
theorem dX0_byFigures_2 : decode cX0_byFigures 2 = .ok (.iload_n 0, 1) := by decide +kernel
theorem dX0_byFigures_3 : decode cX0_byFigures 3 = .ok (.imul, 1) := by decide +kernel
theorem dX0_byFigures_4 : decode cX0_byFigures 4 = .ok (.iload_n 1, 1) := by decide +kernel
theorem dX0_byFigures_5 : decode cX0_byFigures 5 = .ok (.iadd, 1) := by decide +kernel
theorem dX0_byFigures_6 : decode cX0_byFigures 6 = .ok (.istore_n 3, 1) := by decide +kernel
theorem dX0_byFigures_7 : decode cX0_byFigures 7 = .ok (.iload_n 1, 1) := by decide +kernel
theorem dX0_byFigures_8 : decode cX0_byFigures 8 = .ok (.bipush 9, 2) := by decide +kernel
theorem dX0_byFigures_10 : decode cX0_byFigures 10 = .ok (.if_icmp .gt 8, 3) := by decide +kernel
theorem dX0_byFigures_13 : decode cX0_byFigures 13 = .ok (.iload_n 3, 1) := by decide +kernel
theorem dX0_byFigures_14 : decode cX0_byFigures 14 = .ok (.iload_n 2, 1) := by decide +kernel
theorem dX0_byFigures_15 : decode cX0_byFigures 15 = .ok (.if_icmp .lt 8, 3) := by decide +kernel
theorem dX0_byFigures_18 : decode cX0_byFigures 18 = .ok (.bipush (-9), 2) := by decide +kernel
theorem dX0_byFigures_20 : decode cX0_byFigures 20 = .ok (.goto 4, 3) := by decide +kernel
theorem dX0_byFigures_23 : decode cX0_byFigures 23 = .ok (.iload_n 3, 1) := by decide +kernel
theorem dX0_byFigures_24 : decode cX0_byFigures 24 = .ok (.ireturn, 1) := by decide +kernel
theorem dX0_wrong_0 : decode cX0_wrong 0 = .ok (.iload_n 2, 1) := by decide +kernel
theorem dX0_wrong_1 : decode cX0_wrong 1 = .ok (.invokestatic 63, 3) := by decide +kernel
theorem dX0_wrong_4 : decode cX0_wrong 4 = .ok (.aload_n 0, 1) := by decide +kernel
theorem dX0_wrong_5 : decode cX0_wrong 5 = .ok (.getfield 15, 3) := by decide +kernel
theorem dX0_wrong_8 : decode cX0_wrong 8 = .ok (.iload_n 1, 1) := by decide +kernel
theorem dX0_wrong_9 : decode cX0_wrong 9 = .ok (.iaload, 1) := by decide +kernel
theorem dX0_wrong_10 : decode cX0_wrong 10 = .ok (.ixor, 1) := by decide +kernel
theorem dX0_wrong_11 : decode cX0_wrong 11 = .ok (.aload_n 0, 1) := by decide +kernel
theorem dX0_wrong_12 : decode cX0_wrong 12 = .ok (.getfield 18, 3) := by decide +kernel
theorem dX0_wrong_15 : decode cX0_wrong 15 = .ok (.iload_n 1, 1) := by decide +kernel
theorem dX0_wrong_16 : decode cX0_wrong 16 = .ok (.iaload, 1) := by decide +kernel
theorem dX0_wrong_17 : decode cX0_wrong 17 = .ok (.iand, 1) := by decide +kernel
theorem dX0_wrong_18 : decode cX0_wrong 18 = .ok (.ireturn, 1) := by decide +kernel
theorem dX0_missesOf_0 : decode cX0_missesOf 0 = .ok (.iload_n 2, 1) := by decide +kernel
theorem dX0_missesOf_1 : decode cX0_missesOf 1 = .ok (.aload_n 0, 1) := by decide +kernel
theorem dX0_missesOf_2 : decode cX0_missesOf 2 = .ok (.getfield 15, 3) := by decide +kernel
theorem dX0_missesOf_5 : decode cX0_missesOf 5 = .ok (.iload_n 1, 1) := by decide +kernel
theorem dX0_missesOf_6 : decode cX0_missesOf 6 = .ok (.iaload, 1) := by decide +kernel
theorem dX0_missesOf_7 : decode cX0_missesOf 7 = .ok (.ixor, 1) := by decide +kernel
theorem dX0_missesOf_8 : decode cX0_missesOf 8 = .ok (.aload_n 0, 1) := by decide +kernel
theorem dX0_missesOf_9 : decode cX0_missesOf 9 = .ok (.getfield 18, 3) := by decide +kernel
theorem dX0_missesOf_12 : decode cX0_missesOf 12 = .ok (.iload_n 1, 1) := by decide +kernel
theorem dX0_missesOf_13 : decode cX0_missesOf 13 = .ok (.iaload, 1) := by decide +kernel
theorem dX0_missesOf_14 : decode cX0_missesOf 14 = .ok (.iand, 1) := by decide +kernel
theorem dX0_missesOf_15 : decode cX0_missesOf 15 = .ok (.iload_n 3, 1) := by decide +kernel
theorem dX0_missesOf_16 : decode cX0_missesOf 16 = .ok (.iand, 1) := by decide +kernel
theorem dX0_missesOf_17 : decode cX0_missesOf 17 = .ok (.invokestatic 53, 3) := by decide +kernel
theorem dX0_missesOf_20 : decode cX0_missesOf 20 = .ok (.ireturn, 1) := by decide +kernel
theorem dX0_missesFrom_0 : decode cX0_missesFrom 0 = .ok (.iload_n 1, 1) := by decide +kernel
theorem dX0_missesFrom_1 : decode cX0_missesFrom 1 = .ok (.istore_n 2, 1) := by decide +kernel
theorem dX0_missesFrom_2 : decode cX0_missesFrom 2 = .ok (.iconst 0, 1) := by decide +kernel
theorem dX0_missesFrom_3 : decode cX0_missesFrom 3 = .ok (.istore_n 3, 1) := by decide +kernel
theorem dX0_missesFrom_4 : decode cX0_missesFrom 4 = .ok (.iconst 0, 1) := by decide +kernel
theorem dX0_missesFrom_5 : decode cX0_missesFrom 5 = .ok (.istore 4, 2) := by decide +kernel
theorem dX0_missesFrom_7 : decode cX0_missesFrom 7 = .ok (.iload 4, 2) := by decide +kernel
theorem dX0_missesFrom_9 : decode cX0_missesFrom 9 = .ok (.aload_n 0, 1) := by decide +kernel
theorem dX0_missesFrom_10 : decode cX0_missesFrom 10 = .ok (.getfield 29, 3) := by decide +kernel
theorem dX0_missesFrom_13 : decode cX0_missesFrom 13 = .ok (.if_icmp .ge 29, 3) := by decide +kernel
theorem dX0_missesFrom_16 : decode cX0_missesFrom 16 = .ok (.iload_n 3, 1) := by decide +kernel
theorem dX0_missesFrom_17 : decode cX0_missesFrom 17 = .ok (.aload_n 0, 1) := by decide +kernel
theorem dX0_missesFrom_18 : decode cX0_missesFrom 18 = .ok (.iload 4, 2) := by decide +kernel
theorem dX0_missesFrom_20 : decode cX0_missesFrom 20 = .ok (.iload_n 2, 1) := by decide +kernel
theorem dX0_missesFrom_21 : decode cX0_missesFrom 21 = .ok (.invokestatic 63, 3) := by decide +kernel
theorem dX0_missesFrom_24 : decode cX0_missesFrom 24 = .ok (.ldc 68, 2) := by decide +kernel
theorem dX0_missesFrom_26 : decode cX0_missesFrom 26 = .ok (.invokevirtual 69, 3) := by decide +kernel
theorem dX0_missesFrom_29 : decode cX0_missesFrom 29 = .ok (.iadd, 1) := by decide +kernel
theorem dX0_missesFrom_30 : decode cX0_missesFrom 30 = .ok (.istore_n 3, 1) := by decide +kernel
theorem dX0_missesFrom_31 : decode cX0_missesFrom 31 = .ok (.iload_n 2, 1) := by decide +kernel
theorem dX0_missesFrom_32 : decode cX0_missesFrom 32 = .ok (.invokestatic 72, 3) := by decide +kernel
theorem dX0_missesFrom_35 : decode cX0_missesFrom 35 = .ok (.istore_n 2, 1) := by decide +kernel
theorem dX0_missesFrom_36 : decode cX0_missesFrom 36 = .ok (.iinc 4 1, 3) := by decide +kernel
theorem dX0_missesFrom_39 : decode cX0_missesFrom 39 = .ok (.goto (-32), 3) := by decide +kernel
theorem dX0_missesFrom_42 : decode cX0_missesFrom 42 = .ok (.iload_n 3, 1) := by decide +kernel
theorem dX0_missesFrom_43 : decode cX0_missesFrom 43 = .ok (.ireturn, 1) := by decide +kernel
theorem dX1_init_0 : decode cX1_init 0 = .ok (.aload_n 0, 1) := by decide +kernel
theorem dX1_init_1 : decode cX1_init 1 = .ok (.invokespecial 3, 3) := by decide +kernel
theorem dX1_init_4 : decode cX1_init 4 = .ok (.aload_n 0, 1) := by decide +kernel
theorem dX1_init_5 : decode cX1_init 5 = .ok (.bipush 120, 2) := by decide +kernel
theorem dX1_init_7 : decode cX1_init 7 = .ok (.newarray .byte, 2) := by decide +kernel
theorem dX1_init_9 : decode cX1_init 9 = .ok (.putfield 9, 3) := by decide +kernel
theorem dX1_init_12 : decode cX1_init 12 = .ok (.aload_n 0, 1) := by decide +kernel
theorem dX1_init_13 : decode cX1_init 13 = .ok (.iconst 3, 1) := by decide +kernel
theorem dX1_init_14 : decode cX1_init 14 = .ok (.putfield 15, 3) := by decide +kernel
theorem dX1_init_17 : decode cX1_init 17 = .ok (.aload_n 0, 1) := by decide +kernel
theorem dX1_init_18 : decode cX1_init 18 = .ok (.iconst 5, 1) := by decide +kernel
theorem dX1_init_19 : decode cX1_init 19 = .ok (.putfield 19, 3) := by decide +kernel
theorem dX1_init_22 : decode cX1_init 22 = .ok (.aload_n 0, 1) := by decide +kernel
theorem dX1_init_23 : decode cX1_init 23 = .ok (.iconst (-1), 1) := by decide +kernel
theorem dX1_init_24 : decode cX1_init 24 = .ok (.putfield 22, 3) := by decide +kernel
theorem dX1_init_27 : decode cX1_init 27 = .ok (.return_, 1) := by decide +kernel
theorem dX1_append_0 : decode cX1_append 0 = .ok (.aload_n 0, 1) := by decide +kernel
theorem dX1_append_1 : decode cX1_append 1 = .ok (.getfield 25, 3) := by decide +kernel
theorem dX1_append_4 : decode cX1_append 4 = .ok (.bipush 120, 2) := by decide +kernel
theorem dX1_append_6 : decode cX1_append 6 = .ok (.if_icmp .ge 24, 3) := by decide +kernel
theorem dX1_append_9 : decode cX1_append 9 = .ok (.aload_n 0, 1) := by decide +kernel
theorem dX1_append_10 : decode cX1_append 10 = .ok (.getfield 9, 3) := by decide +kernel
theorem dX1_append_13 : decode cX1_append 13 = .ok (.aload_n 0, 1) := by decide +kernel
theorem dX1_append_14 : decode cX1_append 14 = .ok (.getfield 25, 3) := by decide +kernel
theorem dX1_append_17 : decode cX1_append 17 = .ok (.iload_n 1, 1) := by decide +kernel
theorem dX1_append_18 : decode cX1_append 18 = .ok (.i2b, 1) := by decide +kernel
theorem dX1_append_19 : decode cX1_append 19 = .ok (.bastore, 1) := by decide +kernel
theorem dX1_append_20 : decode cX1_append 20 = .ok (.aload_n 0, 1) := by decide +kernel
theorem dX1_append_21 : decode cX1_append 21 = .ok (.dup, 1) := by decide +kernel
theorem dX1_append_22 : decode cX1_append 22 = .ok (.getfield 25, 3) := by decide +kernel
theorem dX1_append_25 : decode cX1_append 25 = .ok (.iconst 1, 1) := by decide +kernel
theorem dX1_append_26 : decode cX1_append 26 = .ok (.iadd, 1) := by decide +kernel
theorem dX1_append_27 : decode cX1_append 27 = .ok (.putfield 25, 3) := by decide +kernel
theorem dX1_append_30 : decode cX1_append 30 = .ok (.return_, 1) := by decide +kernel
theorem dX1_dropFirst_0 : decode cX1_dropFirst 0 = .ok (.iload_n 1, 1) := by decide +kernel
theorem dX1_dropFirst_1 : decode cX1_dropFirst 1 = .ok (.ifCond .lt 11, 3) := by decide +kernel
theorem dX1_dropFirst_4 : decode cX1_dropFirst 4 = .ok (.iload_n 1, 1) := by decide +kernel
theorem dX1_dropFirst_5 : decode cX1_dropFirst 5 = .ok (.aload_n 0, 1) := by decide +kernel
theorem dX1_dropFirst_6 : decode cX1_dropFirst 6 = .ok (.getfield 25, 3) := by decide +kernel
theorem dX1_dropFirst_9 : decode cX1_dropFirst 9 = .ok (.if_icmp .le 4, 3) := by decide +kernel
theorem dX1_dropFirst_12 : decode cX1_dropFirst 12 = .ok (.return_, 1) := by decide +kernel
theorem dX1_dropFirst_13 : decode cX1_dropFirst 13 = .ok (.iload_n 1, 1) := by decide +kernel
theorem dX1_dropFirst_14 : decode cX1_dropFirst 14 = .ok (.istore_n 2, 1) := by decide +kernel
theorem dX1_dropFirst_15 : decode cX1_dropFirst 15 = .ok (.iload_n 2, 1) := by decide +kernel
theorem dX1_dropFirst_16 : decode cX1_dropFirst 16 = .ok (.aload_n 0, 1) := by decide +kernel
theorem dX1_dropFirst_17 : decode cX1_dropFirst 17 = .ok (.getfield 25, 3) := by decide +kernel
theorem dX1_dropFirst_20 : decode cX1_dropFirst 20 = .ok (.if_icmp .ge 23, 3) := by decide +kernel
theorem dX1_dropFirst_23 : decode cX1_dropFirst 23 = .ok (.aload_n 0, 1) := by decide +kernel
theorem dX1_dropFirst_24 : decode cX1_dropFirst 24 = .ok (.getfield 9, 3) := by decide +kernel
theorem dX1_dropFirst_27 : decode cX1_dropFirst 27 = .ok (.iload_n 2, 1) := by decide +kernel
theorem dX1_dropFirst_28 : decode cX1_dropFirst 28 = .ok (.iload_n 1, 1) := by decide +kernel
theorem dX1_dropFirst_29 : decode cX1_dropFirst 29 = .ok (.isub, 1) := by decide +kernel
theorem dX1_dropFirst_30 : decode cX1_dropFirst 30 = .ok (.aload_n 0, 1) := by decide +kernel
theorem dX1_dropFirst_31 : decode cX1_dropFirst 31 = .ok (.getfield 9, 3) := by decide +kernel
theorem dX1_dropFirst_34 : decode cX1_dropFirst 34 = .ok (.iload_n 2, 1) := by decide +kernel
theorem dX1_dropFirst_35 : decode cX1_dropFirst 35 = .ok (.baload, 1) := by decide +kernel
theorem dX1_dropFirst_36 : decode cX1_dropFirst 36 = .ok (.bastore, 1) := by decide +kernel
theorem dX1_dropFirst_37 : decode cX1_dropFirst 37 = .ok (.iinc 2 1, 3) := by decide +kernel
theorem dX1_dropFirst_40 : decode cX1_dropFirst 40 = .ok (.goto (-25), 3) := by decide +kernel
theorem dX1_dropFirst_43 : decode cX1_dropFirst 43 = .ok (.aload_n 0, 1) := by decide +kernel
theorem dX1_dropFirst_44 : decode cX1_dropFirst 44 = .ok (.dup, 1) := by decide +kernel
theorem dX1_dropFirst_45 : decode cX1_dropFirst 45 = .ok (.getfield 25, 3) := by decide +kernel
theorem dX1_dropFirst_48 : decode cX1_dropFirst 48 = .ok (.iload_n 1, 1) := by decide +kernel
theorem dX1_dropFirst_49 : decode cX1_dropFirst 49 = .ok (.isub, 1) := by decide +kernel
theorem dX1_dropFirst_50 : decode cX1_dropFirst 50 = .ok (.putfield 25, 3) := by decide +kernel
theorem dX1_dropFirst_53 : decode cX1_dropFirst 53 = .ok (.return_, 1) := by decide +kernel
theorem dX1_copyFrom_0 : decode cX1_copyFrom 0 = .ok (.iconst 0, 1) := by decide +kernel
theorem dX1_copyFrom_1 : decode cX1_copyFrom 1 = .ok (.istore_n 2, 1) := by decide +kernel
theorem dX1_copyFrom_2 : decode cX1_copyFrom 2 = .ok (.iload_n 2, 1) := by decide +kernel
theorem dX1_copyFrom_3 : decode cX1_copyFrom 3 = .ok (.aload_n 1, 1) := by decide +kernel
theorem dX1_copyFrom_4 : decode cX1_copyFrom 4 = .ok (.getfield 25, 3) := by decide +kernel
theorem dX1_copyFrom_7 : decode cX1_copyFrom 7 = .ok (.if_icmp .ge 21, 3) := by decide +kernel
theorem dX1_copyFrom_10 : decode cX1_copyFrom 10 = .ok (.aload_n 0, 1) := by decide +kernel
theorem dX1_copyFrom_11 : decode cX1_copyFrom 11 = .ok (.getfield 9, 3) := by decide +kernel
theorem dX1_copyFrom_14 : decode cX1_copyFrom 14 = .ok (.iload_n 2, 1) := by decide +kernel
theorem dX1_copyFrom_15 : decode cX1_copyFrom 15 = .ok (.aload_n 1, 1) := by decide +kernel
theorem dX1_copyFrom_16 : decode cX1_copyFrom 16 = .ok (.getfield 9, 3) := by decide +kernel
theorem dX1_copyFrom_19 : decode cX1_copyFrom 19 = .ok (.iload_n 2, 1) := by decide +kernel
theorem dX1_copyFrom_20 : decode cX1_copyFrom 20 = .ok (.baload, 1) := by decide +kernel
theorem dX1_copyFrom_21 : decode cX1_copyFrom 21 = .ok (.bastore, 1) := by decide +kernel
theorem dX1_copyFrom_22 : decode cX1_copyFrom 22 = .ok (.iinc 2 1, 3) := by decide +kernel
theorem dX1_copyFrom_25 : decode cX1_copyFrom 25 = .ok (.goto (-23), 3) := by decide +kernel
theorem dX1_copyFrom_28 : decode cX1_copyFrom 28 = .ok (.aload_n 0, 1) := by decide +kernel
theorem dX1_copyFrom_29 : decode cX1_copyFrom 29 = .ok (.aload_n 1, 1) := by decide +kernel
theorem dX1_copyFrom_30 : decode cX1_copyFrom 30 = .ok (.getfield 25, 3) := by decide +kernel
theorem dX1_copyFrom_33 : decode cX1_copyFrom 33 = .ok (.putfield 25, 3) := by decide +kernel
theorem dX1_copyFrom_36 : decode cX1_copyFrom 36 = .ok (.aload_n 0, 1) := by decide +kernel
theorem dX1_copyFrom_37 : decode cX1_copyFrom 37 = .ok (.aload_n 1, 1) := by decide +kernel
theorem dX1_copyFrom_38 : decode cX1_copyFrom 38 = .ok (.getfield 15, 3) := by decide +kernel
theorem dX1_copyFrom_41 : decode cX1_copyFrom 41 = .ok (.putfield 15, 3) := by decide +kernel
theorem dX1_copyFrom_44 : decode cX1_copyFrom 44 = .ok (.aload_n 0, 1) := by decide +kernel
theorem dX1_copyFrom_45 : decode cX1_copyFrom 45 = .ok (.aload_n 1, 1) := by decide +kernel
theorem dX1_copyFrom_46 : decode cX1_copyFrom 46 = .ok (.getfield 19, 3) := by decide +kernel
theorem dX1_copyFrom_49 : decode cX1_copyFrom 49 = .ok (.putfield 19, 3) := by decide +kernel
theorem dX1_copyFrom_52 : decode cX1_copyFrom 52 = .ok (.aload_n 0, 1) := by decide +kernel
theorem dX1_copyFrom_53 : decode cX1_copyFrom 53 = .ok (.aload_n 1, 1) := by decide +kernel
theorem dX1_copyFrom_54 : decode cX1_copyFrom 54 = .ok (.getfield 22, 3) := by decide +kernel
theorem dX1_copyFrom_57 : decode cX1_copyFrom 57 = .ok (.putfield 22, 3) := by decide +kernel
theorem dX1_copyFrom_60 : decode cX1_copyFrom 60 = .ok (.aload_n 0, 1) := by decide +kernel
theorem dX1_copyFrom_61 : decode cX1_copyFrom 61 = .ok (.aload_n 1, 1) := by decide +kernel
theorem dX1_copyFrom_62 : decode cX1_copyFrom 62 = .ok (.getfield 28, 3) := by decide +kernel
theorem dX1_copyFrom_65 : decode cX1_copyFrom 65 = .ok (.putfield 28, 3) := by decide +kernel
theorem dX1_copyFrom_68 : decode cX1_copyFrom 68 = .ok (.return_, 1) := by decide +kernel
theorem dX2_init_0 : decode cX2_init 0 = .ok (.aload_n 0, 1) := by decide +kernel
theorem dX2_init_1 : decode cX2_init 1 = .ok (.invokespecial 3, 3) := by decide +kernel
theorem dX2_init_4 : decode cX2_init 4 = .ok (.aload_n 0, 1) := by decide +kernel
theorem dX2_init_5 : decode cX2_init 5 = .ok (.bipush 10, 2) := by decide +kernel
theorem dX2_init_7 : decode cX2_init 7 = .ok (.anewarray 9, 3) := by decide +kernel
theorem dX2_init_10 : decode cX2_init 10 = .ok (.putfield 11, 3) := by decide +kernel
theorem dX2_init_13 : decode cX2_init 13 = .ok (.iconst 0, 1) := by decide +kernel
theorem dX2_init_14 : decode cX2_init 14 = .ok (.istore_n 1, 1) := by decide +kernel
theorem dX2_init_15 : decode cX2_init 15 = .ok (.iload_n 1, 1) := by decide +kernel
theorem dX2_init_16 : decode cX2_init 16 = .ok (.bipush 10, 2) := by decide +kernel
theorem dX2_init_18 : decode cX2_init 18 = .ok (.if_icmp .ge 22, 3) := by decide +kernel
theorem dX2_init_21 : decode cX2_init 21 = .ok (.aload_n 0, 1) := by decide +kernel
theorem dX2_init_22 : decode cX2_init 22 = .ok (.getfield 11, 3) := by decide +kernel
theorem dX2_init_25 : decode cX2_init 25 = .ok (.iload_n 1, 1) := by decide +kernel
theorem dX2_init_26 : decode cX2_init 26 = .ok (.new 9, 3) := by decide +kernel
theorem dX2_init_29 : decode cX2_init 29 = .ok (.dup, 1) := by decide +kernel
theorem dX2_init_30 : decode cX2_init 30 = .ok (.invokespecial 17, 3) := by decide +kernel
theorem dX2_init_33 : decode cX2_init 33 = .ok (.aastore, 1) := by decide +kernel
theorem dX2_init_34 : decode cX2_init 34 = .ok (.iinc 1 1, 3) := by decide +kernel
theorem dX2_init_37 : decode cX2_init 37 = .ok (.goto (-22), 3) := by decide +kernel
theorem dX2_init_40 : decode cX2_init 40 = .ok (.return_, 1) := by decide +kernel
theorem dX2_remember_0 : decode cX2_remember 0 = .ok (.aload_n 0, 1) := by decide +kernel
theorem dX2_remember_1 : decode cX2_remember 1 = .ok (.getfield 11, 3) := by decide +kernel
theorem dX2_remember_4 : decode cX2_remember 4 = .ok (.aload_n 0, 1) := by decide +kernel
theorem dX2_remember_5 : decode cX2_remember 5 = .ok (.getfield 18, 3) := by decide +kernel
theorem dX2_remember_8 : decode cX2_remember 8 = .ok (.aaload, 1) := by decide +kernel
theorem dX2_remember_9 : decode cX2_remember 9 = .ok (.aload_n 1, 1) := by decide +kernel
theorem dX2_remember_10 : decode cX2_remember 10 = .ok (.invokevirtual 22, 3) := by decide +kernel
theorem dX2_remember_13 : decode cX2_remember 13 = .ok (.aload_n 0, 1) := by decide +kernel
theorem dX2_remember_14 : decode cX2_remember 14 = .ok (.aload_n 0, 1) := by decide +kernel
theorem dX2_remember_15 : decode cX2_remember 15 = .ok (.getfield 18, 3) := by decide +kernel
theorem dX2_remember_18 : decode cX2_remember 18 = .ok (.iconst 1, 1) := by decide +kernel
theorem dX2_remember_19 : decode cX2_remember 19 = .ok (.iadd, 1) := by decide +kernel
theorem dX2_remember_20 : decode cX2_remember 20 = .ok (.bipush 10, 2) := by decide +kernel
theorem dX2_remember_22 : decode cX2_remember 22 = .ok (.irem, 1) := by decide +kernel
theorem dX2_remember_23 : decode cX2_remember 23 = .ok (.putfield 18, 3) := by decide +kernel
theorem dX2_remember_26 : decode cX2_remember 26 = .ok (.aload_n 0, 1) := by decide +kernel
theorem dX2_remember_27 : decode cX2_remember 27 = .ok (.aload_n 0, 1) := by decide +kernel
theorem dX2_remember_28 : decode cX2_remember 28 = .ok (.getfield 26, 3) := by decide +kernel
theorem dX2_remember_31 : decode cX2_remember 31 = .ok (.iconst 1, 1) := by decide +kernel
theorem dX2_remember_32 : decode cX2_remember 32 = .ok (.iadd, 1) := by decide +kernel
theorem dX2_remember_33 : decode cX2_remember 33 = .ok (.bipush 10, 2) := by decide +kernel
theorem dX2_remember_35 : decode cX2_remember 35 = .ok (.invokestatic 29, 3) := by decide +kernel
theorem dX2_remember_38 : decode cX2_remember 38 = .ok (.putfield 26, 3) := by decide +kernel
theorem dX2_remember_41 : decode cX2_remember 41 = .ok (.return_, 1) := by decide +kernel
theorem dX2_recall_0 : decode cX2_recall 0 = .ok (.aload_n 0, 1) := by decide +kernel
theorem dX2_recall_1 : decode cX2_recall 1 = .ok (.getfield 26, 3) := by decide +kernel
theorem dX2_recall_4 : decode cX2_recall 4 = .ok (.ifCond .ne 4, 3) := by decide +kernel
theorem dX2_recall_7 : decode cX2_recall 7 = .ok (.return_, 1) := by decide +kernel
theorem dX2_recall_8 : decode cX2_recall 8 = .ok (.aload_n 0, 1) := by decide +kernel
theorem dX2_recall_9 : decode cX2_recall 9 = .ok (.aload_n 0, 1) := by decide +kernel
theorem dX2_recall_10 : decode cX2_recall 10 = .ok (.getfield 18, 3) := by decide +kernel
theorem dX2_recall_13 : decode cX2_recall 13 = .ok (.bipush 10, 2) := by decide +kernel
theorem dX2_recall_15 : decode cX2_recall 15 = .ok (.iadd, 1) := by decide +kernel
theorem dX2_recall_16 : decode cX2_recall 16 = .ok (.iconst 1, 1) := by decide +kernel
theorem dX2_recall_17 : decode cX2_recall 17 = .ok (.isub, 1) := by decide +kernel
theorem dX2_recall_18 : decode cX2_recall 18 = .ok (.bipush 10, 2) := by decide +kernel
theorem dX2_recall_20 : decode cX2_recall 20 = .ok (.irem, 1) := by decide +kernel
theorem dX2_recall_21 : decode cX2_recall 21 = .ok (.putfield 18, 3) := by decide +kernel
theorem dX2_recall_24 : decode cX2_recall 24 = .ok (.aload_n 0, 1) := by decide +kernel
theorem dX2_recall_25 : decode cX2_recall 25 = .ok (.dup, 1) := by decide +kernel
theorem dX2_recall_26 : decode cX2_recall 26 = .ok (.getfield 26, 3) := by decide +kernel
theorem dX2_recall_29 : decode cX2_recall 29 = .ok (.iconst 1, 1) := by decide +kernel
theorem dX2_recall_30 : decode cX2_recall 30 = .ok (.isub, 1) := by decide +kernel
theorem dX2_recall_31 : decode cX2_recall 31 = .ok (.putfield 26, 3) := by decide +kernel
theorem dX2_recall_34 : decode cX2_recall 34 = .ok (.aload_n 1, 1) := by decide +kernel
theorem dX2_recall_35 : decode cX2_recall 35 = .ok (.aload_n 0, 1) := by decide +kernel
theorem dX2_recall_36 : decode cX2_recall 36 = .ok (.getfield 11, 3) := by decide +kernel
theorem dX2_recall_39 : decode cX2_recall 39 = .ok (.aload_n 0, 1) := by decide +kernel
theorem dX2_recall_40 : decode cX2_recall 40 = .ok (.getfield 18, 3) := by decide +kernel
theorem dX2_recall_43 : decode cX2_recall 43 = .ok (.aaload, 1) := by decide +kernel
theorem dX2_recall_44 : decode cX2_recall 44 = .ok (.invokevirtual 22, 3) := by decide +kernel
theorem dX2_recall_47 : decode cX2_recall 47 = .ok (.return_, 1) := by decide +kernel
theorem dX2_forget_0 : decode cX2_forget 0 = .ok (.aload_n 0, 1) := by decide +kernel
theorem dX2_forget_1 : decode cX2_forget 1 = .ok (.iconst 0, 1) := by decide +kernel
theorem dX2_forget_2 : decode cX2_forget 2 = .ok (.putfield 26, 3) := by decide +kernel
theorem dX2_forget_5 : decode cX2_forget 5 = .ok (.return_, 1) := by decide +kernel
theorem dX3_isTime_0 : decode cX3_isTime 0 = .ok (.iload_n 0, 1) := by decide +kernel
theorem dX3_isTime_1 : decode cX3_isTime 1 = .ok (.ifCond .lt 35, 3) := by decide +kernel
theorem dX3_isTime_4 : decode cX3_isTime 4 = .ok (.iload_n 0, 1) := by decide +kernel
theorem dX3_isTime_5 : decode cX3_isTime 5 = .ok (.sipush 1440, 3) := by decide +kernel
theorem dX3_isTime_8 : decode cX3_isTime 8 = .ok (.if_icmp .ge 28, 3) := by decide +kernel
theorem dX3_isTime_11 : decode cX3_isTime 11 = .ok (.iload_n 1, 1) := by decide +kernel
theorem dX3_isTime_12 : decode cX3_isTime 12 = .ok (.invokestatic 9, 3) := by decide +kernel
theorem dX3_isTime_15 : decode cX3_isTime 15 = .ok (.ifCond .eq 21, 3) := by decide +kernel
theorem dX3_isTime_18 : decode cX3_isTime 18 = .ok (.iload_n 2, 1) := by decide +kernel
theorem dX3_isTime_19 : decode cX3_isTime 19 = .ok (.invokestatic 9, 3) := by decide +kernel
theorem dX3_isTime_22 : decode cX3_isTime 22 = .ok (.ifCond .eq 14, 3) := by decide +kernel
theorem dX3_isTime_25 : decode cX3_isTime 25 = .ok (.iload_n 3, 1) := by decide +kernel
theorem dX3_isTime_26 : decode cX3_isTime 26 = .ok (.invokestatic 9, 3) := by decide +kernel
theorem dX3_isTime_29 : decode cX3_isTime 29 = .ok (.ifCond .eq 7, 3) := by decide +kernel
theorem dX3_isTime_32 : decode cX3_isTime 32 = .ok (.iconst 1, 1) := by decide +kernel
theorem dX3_isTime_33 : decode cX3_isTime 33 = .ok (.goto 4, 3) := by decide +kernel
theorem dX3_isTime_36 : decode cX3_isTime 36 = .ok (.iconst 0, 1) := by decide +kernel
theorem dX3_isTime_37 : decode cX3_isTime 37 = .ok (.ireturn, 1) := by decide +kernel
theorem dX3_isSign_0 : decode cX3_isSign 0 = .ok (.iload_n 0, 1) := by decide +kernel
theorem dX3_isSign_1 : decode cX3_isSign 1 = .ok (.ifCond .eq 8, 3) := by decide +kernel
theorem dX3_isSign_4 : decode cX3_isSign 4 = .ok (.iload_n 0, 1) := by decide +kernel
theorem dX3_isSign_5 : decode cX3_isSign 5 = .ok (.iconst 1, 1) := by decide +kernel
theorem dX3_isSign_6 : decode cX3_isSign 6 = .ok (.if_icmp .ne 7, 3) := by decide +kernel
theorem dX3_isSign_9 : decode cX3_isSign 9 = .ok (.iconst 1, 1) := by decide +kernel
theorem dX3_isSign_10 : decode cX3_isSign 10 = .ok (.goto 4, 3) := by decide +kernel
theorem dX3_isSign_13 : decode cX3_isSign 13 = .ok (.iconst 0, 1) := by decide +kernel
theorem dX3_isSign_14 : decode cX3_isSign 14 = .ok (.ireturn, 1) := by decide +kernel
theorem dX3_of_0 : decode cX3_of 0 = .ok (.bipush 8, 2) := by decide +kernel
theorem dX3_of_2 : decode cX3_of 2 = .ok (.iload_n 0, 1) := by decide +kernel
theorem dX3_of_3 : decode cX3_of 3 = .ok (.imul, 1) := by decide +kernel
theorem dX3_of_4 : decode cX3_of 4 = .ok (.iconst 4, 1) := by decide +kernel
theorem dX3_of_5 : decode cX3_of 5 = .ok (.iload_n 1, 1) := by decide +kernel
theorem dX3_of_6 : decode cX3_of 6 = .ok (.imul, 1) := by decide +kernel
theorem dX3_of_7 : decode cX3_of 7 = .ok (.iadd, 1) := by decide +kernel
theorem dX3_of_8 : decode cX3_of 8 = .ok (.iconst 2, 1) := by decide +kernel
theorem dX3_of_9 : decode cX3_of 9 = .ok (.iload_n 2, 1) := by decide +kernel
theorem dX3_of_10 : decode cX3_of 10 = .ok (.imul, 1) := by decide +kernel
theorem dX3_of_11 : decode cX3_of 11 = .ok (.iadd, 1) := by decide +kernel
theorem dX3_of_12 : decode cX3_of 12 = .ok (.iload_n 3, 1) := by decide +kernel
theorem dX3_of_13 : decode cX3_of 13 = .ok (.iadd, 1) := by decide +kernel
theorem dX3_of_14 : decode cX3_of 14 = .ok (.ireturn, 1) := by decide +kernel
theorem dX3_minuteOf_0 : decode cX3_minuteOf 0 = .ok (.iload_n 0, 1) := by decide +kernel
theorem dX3_minuteOf_1 : decode cX3_minuteOf 1 = .ok (.bipush 8, 2) := by decide +kernel
theorem dX3_minuteOf_3 : decode cX3_minuteOf 3 = .ok (.idiv, 1) := by decide +kernel
theorem dX3_minuteOf_4 : decode cX3_minuteOf 4 = .ok (.ireturn, 1) := by decide +kernel
theorem dX3_summerOf_0 : decode cX3_summerOf 0 = .ok (.iload_n 0, 1) := by decide +kernel
theorem dX3_summerOf_1 : decode cX3_summerOf 1 = .ok (.iconst 2, 1) := by decide +kernel
theorem dX3_summerOf_2 : decode cX3_summerOf 2 = .ok (.ishr, 1) := by decide +kernel
theorem dX3_summerOf_3 : decode cX3_summerOf 3 = .ok (.iconst 1, 1) := by decide +kernel
theorem dX3_summerOf_4 : decode cX3_summerOf 4 = .ok (.iand, 1) := by decide +kernel
theorem dX3_summerOf_5 : decode cX3_summerOf 5 = .ok (.ireturn, 1) := by decide +kernel
theorem dX3_shiftOf_0 : decode cX3_shiftOf 0 = .ok (.iload_n 0, 1) := by decide +kernel
theorem dX3_shiftOf_1 : decode cX3_shiftOf 1 = .ok (.iconst 1, 1) := by decide +kernel
theorem dX3_shiftOf_2 : decode cX3_shiftOf 2 = .ok (.ishr, 1) := by decide +kernel
theorem dX3_shiftOf_3 : decode cX3_shiftOf 3 = .ok (.iconst 1, 1) := by decide +kernel
theorem dX3_shiftOf_4 : decode cX3_shiftOf 4 = .ok (.iand, 1) := by decide +kernel
theorem dX3_shiftOf_5 : decode cX3_shiftOf 5 = .ok (.ireturn, 1) := by decide +kernel
theorem dX3_leapOf_0 : decode cX3_leapOf 0 = .ok (.iload_n 0, 1) := by decide +kernel
theorem dX3_leapOf_1 : decode cX3_leapOf 1 = .ok (.iconst 1, 1) := by decide +kernel
theorem dX3_leapOf_2 : decode cX3_leapOf 2 = .ok (.iand, 1) := by decide +kernel
theorem dX3_leapOf_3 : decode cX3_leapOf 3 = .ok (.ireturn, 1) := by decide +kernel
theorem dX3_partOf_0 : decode cX3_partOf 0 = .ok (.iload_n 1, 1) := by decide +kernel
theorem dX3_partOf_1 : decode cX3_partOf 1 = .ok (.tableswitch 42 0 2 #[27, 32, 37], 27) := by decide +kernel
theorem dX3_partOf_28 : decode cX3_partOf 28 = .ok (.iload_n 0, 1) := by decide +kernel
theorem dX3_partOf_29 : decode cX3_partOf 29 = .ok (.invokestatic 15, 3) := by decide +kernel
theorem dX3_partOf_32 : decode cX3_partOf 32 = .ok (.ireturn, 1) := by decide +kernel
theorem dX3_partOf_33 : decode cX3_partOf 33 = .ok (.iload_n 0, 1) := by decide +kernel
theorem dX3_partOf_34 : decode cX3_partOf 34 = .ok (.invokestatic 19, 3) := by decide +kernel
theorem dX3_partOf_37 : decode cX3_partOf 37 = .ok (.ireturn, 1) := by decide +kernel
theorem dX3_partOf_38 : decode cX3_partOf 38 = .ok (.iload_n 0, 1) := by decide +kernel
theorem dX3_partOf_39 : decode cX3_partOf 39 = .ok (.invokestatic 22, 3) := by decide +kernel
theorem dX3_partOf_42 : decode cX3_partOf 42 = .ok (.ireturn, 1) := by decide +kernel
theorem dX3_partOf_43 : decode cX3_partOf 43 = .ok (.iload_n 0, 1) := by decide +kernel
theorem dX3_partOf_44 : decode cX3_partOf 44 = .ok (.invokestatic 25, 3) := by decide +kernel
theorem dX3_partOf_47 : decode cX3_partOf 47 = .ok (.ireturn, 1) := by decide +kernel
theorem dX3_next_0 : decode cX3_next 0 = .ok (.iload_n 0, 1) := by decide +kernel
theorem dX3_next_1 : decode cX3_next 1 = .ok (.invokestatic 15, 3) := by decide +kernel
theorem dX3_next_4 : decode cX3_next 4 = .ok (.iconst 1, 1) := by decide +kernel
theorem dX3_next_5 : decode cX3_next 5 = .ok (.iadd, 1) := by decide +kernel
theorem dX3_next_6 : decode cX3_next 6 = .ok (.sipush 1440, 3) := by decide +kernel
theorem dX3_next_9 : decode cX3_next 9 = .ok (.irem, 1) := by decide +kernel
theorem dX3_next_10 : decode cX3_next 10 = .ok (.istore_n 1, 1) := by decide +kernel
theorem dX3_next_11 : decode cX3_next 11 = .ok (.iload_n 1, 1) := by decide +kernel
theorem dX3_next_12 : decode cX3_next 12 = .ok (.bipush 60, 2) := by decide +kernel
theorem dX3_next_14 : decode cX3_next 14 = .ok (.irem, 1) := by decide +kernel
theorem dX3_next_15 : decode cX3_next 15 = .ok (.ifCond .eq 13, 3) := by decide +kernel
theorem dX3_next_18 : decode cX3_next 18 = .ok (.bipush 8, 2) := by decide +kernel
theorem dX3_next_20 : decode cX3_next 20 = .ok (.iload_n 1, 1) := by decide +kernel
theorem dX3_next_21 : decode cX3_next 21 = .ok (.imul, 1) := by decide +kernel
theorem dX3_next_22 : decode cX3_next 22 = .ok (.iload_n 0, 1) := by decide +kernel
theorem dX3_next_23 : decode cX3_next 23 = .ok (.bipush 8, 2) := by decide +kernel
theorem dX3_next_25 : decode cX3_next 25 = .ok (.irem, 1) := by decide +kernel
theorem dX3_next_26 : decode cX3_next 26 = .ok (.iadd, 1) := by decide +kernel
theorem dX3_next_27 : decode cX3_next 27 = .ok (.ireturn, 1) := by decide +kernel
theorem dX3_next_28 : decode cX3_next 28 = .ok (.iload_n 0, 1) := by decide +kernel
theorem dX3_next_29 : decode cX3_next 29 = .ok (.invokestatic 19, 3) := by decide +kernel
theorem dX3_next_32 : decode cX3_next 32 = .ok (.istore_n 2, 1) := by decide +kernel
theorem dX3_next_33 : decode cX3_next 33 = .ok (.iload_n 0, 1) := by decide +kernel
theorem dX3_next_34 : decode cX3_next 34 = .ok (.invokestatic 22, 3) := by decide +kernel
theorem dX3_next_37 : decode cX3_next 37 = .ok (.iconst 1, 1) := by decide +kernel
theorem dX3_next_38 : decode cX3_next 38 = .ok (.if_icmp .ne 27, 3) := by decide +kernel
theorem dX3_next_41 : decode cX3_next 41 = .ok (.iconst 1, 1) := by decide +kernel
theorem dX3_next_42 : decode cX3_next 42 = .ok (.iload_n 2, 1) := by decide +kernel
theorem dX3_next_43 : decode cX3_next 43 = .ok (.isub, 1) := by decide +kernel
theorem dX3_next_44 : decode cX3_next 44 = .ok (.istore_n 2, 1) := by decide +kernel
theorem dX3_next_45 : decode cX3_next 45 = .ok (.iload_n 1, 1) := by decide +kernel
theorem dX3_next_46 : decode cX3_next 46 = .ok (.iload_n 2, 1) := by decide +kernel
theorem dX3_next_47 : decode cX3_next 47 = .ok (.iconst 1, 1) := by decide +kernel
theorem dX3_next_48 : decode cX3_next 48 = .ok (.if_icmp .ne 8, 3) := by decide +kernel
theorem dX3_next_51 : decode cX3_next 51 = .ok (.bipush 60, 2) := by decide +kernel
theorem dX3_next_53 : decode cX3_next 53 = .ok (.goto 6, 3) := by decide +kernel
theorem dX3_next_56 : decode cX3_next 56 = .ok (.sipush 1380, 3) := by decide +kernel
theorem dX3_next_59 : decode cX3_next 59 = .ok (.iadd, 1) := by decide +kernel
theorem dX3_next_60 : decode cX3_next 60 = .ok (.sipush 1440, 3) := by decide +kernel
theorem dX3_next_63 : decode cX3_next 63 = .ok (.irem, 1) := by decide +kernel
theorem dX3_next_64 : decode cX3_next 64 = .ok (.istore_n 1, 1) := by decide +kernel
theorem dX3_next_65 : decode cX3_next 65 = .ok (.iload_n 1, 1) := by decide +kernel
theorem dX3_next_66 : decode cX3_next 66 = .ok (.iload_n 2, 1) := by decide +kernel
theorem dX3_next_67 : decode cX3_next 67 = .ok (.iconst 0, 1) := by decide +kernel
theorem dX3_next_68 : decode cX3_next 68 = .ok (.iconst 0, 1) := by decide +kernel
theorem dX3_next_69 : decode cX3_next 69 = .ok (.invokestatic 28, 3) := by decide +kernel
theorem dX3_next_72 : decode cX3_next 72 = .ok (.ireturn, 1) := by decide +kernel
theorem dX3_later_0 : decode cX3_later 0 = .ok (.iload_n 0, 1) := by decide +kernel
theorem dX3_later_1 : decode cX3_later 1 = .ok (.istore_n 2, 1) := by decide +kernel
theorem dX3_later_2 : decode cX3_later 2 = .ok (.iconst 0, 1) := by decide +kernel
theorem dX3_later_3 : decode cX3_later 3 = .ok (.istore_n 3, 1) := by decide +kernel
theorem dX3_later_4 : decode cX3_later 4 = .ok (.iload_n 3, 1) := by decide +kernel
theorem dX3_later_5 : decode cX3_later 5 = .ok (.iload_n 1, 1) := by decide +kernel
theorem dX3_later_6 : decode cX3_later 6 = .ok (.if_icmp .ge 14, 3) := by decide +kernel
theorem dX3_later_9 : decode cX3_later 9 = .ok (.iload_n 2, 1) := by decide +kernel
theorem dX3_later_10 : decode cX3_later 10 = .ok (.invokestatic 32, 3) := by decide +kernel
theorem dX3_later_13 : decode cX3_later 13 = .ok (.istore_n 2, 1) := by decide +kernel
theorem dX3_later_14 : decode cX3_later 14 = .ok (.iinc 3 1, 3) := by decide +kernel
theorem dX3_later_17 : decode cX3_later 17 = .ok (.goto (-13), 3) := by decide +kernel
theorem dX3_later_20 : decode cX3_later 20 = .ok (.iload_n 2, 1) := by decide +kernel
theorem dX3_later_21 : decode cX3_later 21 = .ok (.ireturn, 1) := by decide +kernel
theorem dX3_bitsOf_0 : decode cX3_bitsOf 0 = .ok (.iload_n 0, 1) := by decide +kernel
theorem dX3_bitsOf_1 : decode cX3_bitsOf 1 = .ok (.invokestatic 15, 3) := by decide +kernel
theorem dX3_bitsOf_4 : decode cX3_bitsOf 4 = .ok (.bipush 60, 2) := by decide +kernel
theorem dX3_bitsOf_6 : decode cX3_bitsOf 6 = .ok (.irem, 1) := by decide +kernel
theorem dX3_bitsOf_7 : decode cX3_bitsOf 7 = .ok (.istore_n 1, 1) := by decide +kernel
theorem dX3_bitsOf_8 : decode cX3_bitsOf 8 = .ok (.iload_n 0, 1) := by decide +kernel
theorem dX3_bitsOf_9 : decode cX3_bitsOf 9 = .ok (.invokestatic 15, 3) := by decide +kernel
theorem dX3_bitsOf_12 : decode cX3_bitsOf 12 = .ok (.bipush 60, 2) := by decide +kernel
theorem dX3_bitsOf_14 : decode cX3_bitsOf 14 = .ok (.idiv, 1) := by decide +kernel
theorem dX3_bitsOf_15 : decode cX3_bitsOf 15 = .ok (.istore_n 2, 1) := by decide +kernel
theorem dX3_bitsOf_16 : decode cX3_bitsOf 16 = .ok (.iload_n 0, 1) := by decide +kernel
theorem dX3_bitsOf_17 : decode cX3_bitsOf 17 = .ok (.invokestatic 22, 3) := by decide +kernel
theorem dX3_bitsOf_20 : decode cX3_bitsOf 20 = .ok (.iconst 1, 1) := by decide +kernel
theorem dX3_bitsOf_21 : decode cX3_bitsOf 21 = .ok (.ishl, 1) := by decide +kernel
theorem dX3_bitsOf_22 : decode cX3_bitsOf 22 = .ok (.iload_n 0, 1) := by decide +kernel
theorem dX3_bitsOf_23 : decode cX3_bitsOf 23 = .ok (.invokestatic 25, 3) := by decide +kernel
theorem dX3_bitsOf_26 : decode cX3_bitsOf 26 = .ok (.iconst 2, 1) := by decide +kernel
theorem dX3_bitsOf_27 : decode cX3_bitsOf 27 = .ok (.ishl, 1) := by decide +kernel
theorem dX3_bitsOf_28 : decode cX3_bitsOf 28 = .ok (.ior, 1) := by decide +kernel
theorem dX3_bitsOf_29 : decode cX3_bitsOf 29 = .ok (.iload_n 0, 1) := by decide +kernel
theorem dX3_bitsOf_30 : decode cX3_bitsOf 30 = .ok (.invokestatic 19, 3) := by decide +kernel
theorem dX3_bitsOf_33 : decode cX3_bitsOf 33 = .ok (.iconst 3, 1) := by decide +kernel
theorem dX3_bitsOf_34 : decode cX3_bitsOf 34 = .ok (.ishl, 1) := by decide +kernel
theorem dX3_bitsOf_35 : decode cX3_bitsOf 35 = .ok (.ior, 1) := by decide +kernel
theorem dX3_bitsOf_36 : decode cX3_bitsOf 36 = .ok (.istore_n 3, 1) := by decide +kernel
theorem dX3_bitsOf_37 : decode cX3_bitsOf 37 = .ok (.iload_n 1, 1) := by decide +kernel
theorem dX3_bitsOf_38 : decode cX3_bitsOf 38 = .ok (.bipush 10, 2) := by decide +kernel
theorem dX3_bitsOf_40 : decode cX3_bitsOf 40 = .ok (.irem, 1) := by decide +kernel
theorem dX3_bitsOf_41 : decode cX3_bitsOf 41 = .ok (.iconst 4, 1) := by decide +kernel
theorem dX3_bitsOf_42 : decode cX3_bitsOf 42 = .ok (.ishl, 1) := by decide +kernel
theorem dX3_bitsOf_43 : decode cX3_bitsOf 43 = .ok (.iload_n 1, 1) := by decide +kernel
theorem dX3_bitsOf_44 : decode cX3_bitsOf 44 = .ok (.bipush 10, 2) := by decide +kernel
theorem dX3_bitsOf_46 : decode cX3_bitsOf 46 = .ok (.idiv, 1) := by decide +kernel
theorem dX3_bitsOf_47 : decode cX3_bitsOf 47 = .ok (.bipush 8, 2) := by decide +kernel
theorem dX3_bitsOf_49 : decode cX3_bitsOf 49 = .ok (.ishl, 1) := by decide +kernel
theorem dX3_bitsOf_50 : decode cX3_bitsOf 50 = .ok (.ior, 1) := by decide +kernel
theorem dX3_bitsOf_51 : decode cX3_bitsOf 51 = .ok (.istore 4, 2) := by decide +kernel
theorem dX3_bitsOf_53 : decode cX3_bitsOf 53 = .ok (.iload_n 2, 1) := by decide +kernel
theorem dX3_bitsOf_54 : decode cX3_bitsOf 54 = .ok (.bipush 10, 2) := by decide +kernel
theorem dX3_bitsOf_56 : decode cX3_bitsOf 56 = .ok (.irem, 1) := by decide +kernel
theorem dX3_bitsOf_57 : decode cX3_bitsOf 57 = .ok (.bipush 12, 2) := by decide +kernel
theorem dX3_bitsOf_59 : decode cX3_bitsOf 59 = .ok (.ishl, 1) := by decide +kernel
theorem dX3_bitsOf_60 : decode cX3_bitsOf 60 = .ok (.iload_n 2, 1) := by decide +kernel
theorem dX3_bitsOf_61 : decode cX3_bitsOf 61 = .ok (.bipush 10, 2) := by decide +kernel
theorem dX3_bitsOf_63 : decode cX3_bitsOf 63 = .ok (.idiv, 1) := by decide +kernel
theorem dX3_bitsOf_64 : decode cX3_bitsOf 64 = .ok (.bipush 16, 2) := by decide +kernel
theorem dX3_bitsOf_66 : decode cX3_bitsOf 66 = .ok (.ishl, 1) := by decide +kernel
theorem dX3_bitsOf_67 : decode cX3_bitsOf 67 = .ok (.ior, 1) := by decide +kernel
theorem dX3_bitsOf_68 : decode cX3_bitsOf 68 = .ok (.istore 5, 2) := by decide +kernel
theorem dX3_bitsOf_70 : decode cX3_bitsOf 70 = .ok (.iload 4, 2) := by decide +kernel
theorem dX3_bitsOf_72 : decode cX3_bitsOf 72 = .ok (.invokestatic 35, 3) := by decide +kernel
theorem dX3_bitsOf_75 : decode cX3_bitsOf 75 = .ok (.iconst 2, 1) := by decide +kernel
theorem dX3_bitsOf_76 : decode cX3_bitsOf 76 = .ok (.irem, 1) := by decide +kernel
theorem dX3_bitsOf_77 : decode cX3_bitsOf 77 = .ok (.bipush 11, 2) := by decide +kernel
theorem dX3_bitsOf_79 : decode cX3_bitsOf 79 = .ok (.ishl, 1) := by decide +kernel
theorem dX3_bitsOf_80 : decode cX3_bitsOf 80 = .ok (.istore 6, 2) := by decide +kernel
theorem dX3_bitsOf_82 : decode cX3_bitsOf 82 = .ok (.iload 5, 2) := by decide +kernel
theorem dX3_bitsOf_84 : decode cX3_bitsOf 84 = .ok (.invokestatic 35, 3) := by decide +kernel
theorem dX3_bitsOf_87 : decode cX3_bitsOf 87 = .ok (.iconst 2, 1) := by decide +kernel
theorem dX3_bitsOf_88 : decode cX3_bitsOf 88 = .ok (.irem, 1) := by decide +kernel
theorem dX3_bitsOf_89 : decode cX3_bitsOf 89 = .ok (.bipush 18, 2) := by decide +kernel
theorem dX3_bitsOf_91 : decode cX3_bitsOf 91 = .ok (.ishl, 1) := by decide +kernel
theorem dX3_bitsOf_92 : decode cX3_bitsOf 92 = .ok (.istore 7, 2) := by decide +kernel
theorem dX3_bitsOf_94 : decode cX3_bitsOf 94 = .ok (.iload_n 3, 1) := by decide +kernel
theorem dX3_bitsOf_95 : decode cX3_bitsOf 95 = .ok (.iload 4, 2) := by decide +kernel
theorem dX3_bitsOf_97 : decode cX3_bitsOf 97 = .ok (.ior, 1) := by decide +kernel
theorem dX3_bitsOf_98 : decode cX3_bitsOf 98 = .ok (.iload 6, 2) := by decide +kernel
theorem dX3_bitsOf_100 : decode cX3_bitsOf 100 = .ok (.ior, 1) := by decide +kernel
theorem dX3_bitsOf_101 : decode cX3_bitsOf 101 = .ok (.iload 5, 2) := by decide +kernel
theorem dX3_bitsOf_103 : decode cX3_bitsOf 103 = .ok (.ior, 1) := by decide +kernel
theorem dX3_bitsOf_104 : decode cX3_bitsOf 104 = .ok (.iload 7, 2) := by decide +kernel
theorem dX3_bitsOf_106 : decode cX3_bitsOf 106 = .ok (.ior, 1) := by decide +kernel
theorem dX3_bitsOf_107 : decode cX3_bitsOf 107 = .ok (.ireturn, 1) := by decide +kernel
theorem dX4_init_0 : decode cX4_init 0 = .ok (.aload_n 0, 1) := by decide +kernel
theorem dX4_init_1 : decode cX4_init 1 = .ok (.invokespecial 3, 3) := by decide +kernel
theorem dX4_init_4 : decode cX4_init 4 = .ok (.aload_n 0, 1) := by decide +kernel
theorem dX4_init_5 : decode cX4_init 5 = .ok (.bipush 60, 2) := by decide +kernel
theorem dX4_init_7 : decode cX4_init 7 = .ok (.newarray .int, 2) := by decide +kernel
theorem dX4_init_9 : decode cX4_init 9 = .ok (.putfield 9, 3) := by decide +kernel
theorem dX4_init_12 : decode cX4_init 12 = .ok (.aload_n 0, 1) := by decide +kernel
theorem dX4_init_13 : decode cX4_init 13 = .ok (.bipush 7, 2) := by decide +kernel
theorem dX4_init_15 : decode cX4_init 15 = .ok (.sipush 192, 3) := by decide +kernel
theorem dX4_init_18 : decode cX4_init 18 = .ok (.multianewarray 15 2, 4) := by decide +kernel
theorem dX4_init_22 : decode cX4_init 22 = .ok (.putfield 17, 3) := by decide +kernel
theorem dX4_init_25 : decode cX4_init 25 = .ok (.return_, 1) := by decide +kernel
theorem dX4_take_0 : decode cX4_take 0 = .ok (.aload_n 0, 1) := by decide +kernel
theorem dX4_take_1 : decode cX4_take 1 = .ok (.aload_n 1, 1) := by decide +kernel
theorem dX4_take_2 : decode cX4_take 2 = .ok (.getfield 20, 3) := by decide +kernel
theorem dX4_take_5 : decode cX4_take 5 = .ok (.putfield 26, 3) := by decide +kernel
theorem dX4_take_8 : decode cX4_take 8 = .ok (.aload_n 0, 1) := by decide +kernel
theorem dX4_take_9 : decode cX4_take 9 = .ok (.aload_n 1, 1) := by decide +kernel
theorem dX4_take_10 : decode cX4_take 10 = .ok (.invokevirtual 27, 3) := by decide +kernel
theorem dX4_take_13 : decode cX4_take 13 = .ok (.aload_n 0, 1) := by decide +kernel
theorem dX4_take_14 : decode cX4_take 14 = .ok (.aload_n 1, 1) := by decide +kernel
theorem dX4_take_15 : decode cX4_take 15 = .ok (.invokevirtual 31, 3) := by decide +kernel
theorem dX4_take_18 : decode cX4_take 18 = .ok (.aload_n 0, 1) := by decide +kernel
theorem dX4_take_19 : decode cX4_take 19 = .ok (.invokevirtual 34, 3) := by decide +kernel
theorem dX4_take_22 : decode cX4_take 22 = .ok (.aload_n 0, 1) := by decide +kernel
theorem dX4_take_23 : decode cX4_take 23 = .ok (.aload_n 0, 1) := by decide +kernel
theorem dX4_take_24 : decode cX4_take 24 = .ok (.getfield 37, 3) := by decide +kernel
theorem dX4_take_27 : decode cX4_take 27 = .ok (.aload_n 0, 1) := by decide +kernel
theorem dX4_take_28 : decode cX4_take 28 = .ok (.getfield 26, 3) := by decide +kernel
theorem dX4_take_31 : decode cX4_take 31 = .ok (.iconst 1, 1) := by decide +kernel
theorem dX4_take_32 : decode cX4_take 32 = .ok (.isub, 1) := by decide +kernel
theorem dX4_take_33 : decode cX4_take 33 = .ok (.invokestatic 40, 3) := by decide +kernel
theorem dX4_take_36 : decode cX4_take 36 = .ok (.putfield 46, 3) := by decide +kernel
theorem dX4_take_39 : decode cX4_take 39 = .ok (.return_, 1) := by decide +kernel
theorem dX4_countByMinute_0 : decode cX4_countByMinute 0 = .ok (.iconst 0, 1) := by decide +kernel
theorem dX4_countByMinute_1 : decode cX4_countByMinute 1 = .ok (.istore_n 2, 1) := by decide +kernel
theorem dX4_countByMinute_2 : decode cX4_countByMinute 2 = .ok (.iload_n 2, 1) := by decide +kernel
theorem dX4_countByMinute_3 : decode cX4_countByMinute 3 = .ok (.bipush 60, 2) := by decide +kernel
theorem dX4_countByMinute_5 : decode cX4_countByMinute 5 = .ok (.if_icmp .ge 65, 3) := by decide +kernel
theorem dX4_countByMinute_8 : decode cX4_countByMinute 8 = .ok (.iconst 0, 1) := by decide +kernel
theorem dX4_countByMinute_9 : decode cX4_countByMinute 9 = .ok (.istore_n 3, 1) := by decide +kernel
theorem dX4_countByMinute_10 : decode cX4_countByMinute 10 = .ok (.iconst 0, 1) := by decide +kernel
theorem dX4_countByMinute_11 : decode cX4_countByMinute 11 = .ok (.istore 4, 2) := by decide +kernel
theorem dX4_countByMinute_13 : decode cX4_countByMinute 13 = .ok (.iload 4, 2) := by decide +kernel
theorem dX4_countByMinute_15 : decode cX4_countByMinute 15 = .ok (.aload_n 0, 1) := by decide +kernel
theorem dX4_countByMinute_16 : decode cX4_countByMinute 16 = .ok (.getfield 26, 3) := by decide +kernel
theorem dX4_countByMinute_19 : decode cX4_countByMinute 19 = .ok (.if_icmp .ge 38, 3) := by decide +kernel
theorem dX4_countByMinute_22 : decode cX4_countByMinute 22 = .ok (.bipush 8, 2) := by decide +kernel
theorem dX4_countByMinute_24 : decode cX4_countByMinute 24 = .ok (.iload_n 2, 1) := by decide +kernel
theorem dX4_countByMinute_25 : decode cX4_countByMinute 25 = .ok (.iload 4, 2) := by decide +kernel
theorem dX4_countByMinute_27 : decode cX4_countByMinute 27 = .ok (.iadd, 1) := by decide +kernel
theorem dX4_countByMinute_28 : decode cX4_countByMinute 28 = .ok (.bipush 60, 2) := by decide +kernel
theorem dX4_countByMinute_30 : decode cX4_countByMinute 30 = .ok (.irem, 1) := by decide +kernel
theorem dX4_countByMinute_31 : decode cX4_countByMinute 31 = .ok (.imul, 1) := by decide +kernel
theorem dX4_countByMinute_32 : decode cX4_countByMinute 32 = .ok (.invokestatic 49, 3) := by decide +kernel
theorem dX4_countByMinute_35 : decode cX4_countByMinute 35 = .ok (.istore 5, 2) := by decide +kernel
theorem dX4_countByMinute_37 : decode cX4_countByMinute 37 = .ok (.iload_n 3, 1) := by decide +kernel
theorem dX4_countByMinute_38 : decode cX4_countByMinute 38 = .ok (.aload_n 1, 1) := by decide +kernel
theorem dX4_countByMinute_39 : decode cX4_countByMinute 39 = .ok (.iload 4, 2) := by decide +kernel
theorem dX4_countByMinute_41 : decode cX4_countByMinute 41 = .ok (.iload 5, 2) := by decide +kernel
theorem dX4_countByMinute_43 : decode cX4_countByMinute 43 = .ok (.sipush 4080, 3) := by decide +kernel
theorem dX4_countByMinute_46 : decode cX4_countByMinute 46 = .ok (.invokevirtual 53, 3) := by decide +kernel
theorem dX4_countByMinute_49 : decode cX4_countByMinute 49 = .ok (.iadd, 1) := by decide +kernel
theorem dX4_countByMinute_50 : decode cX4_countByMinute 50 = .ok (.istore_n 3, 1) := by decide +kernel
theorem dX4_countByMinute_51 : decode cX4_countByMinute 51 = .ok (.iinc 4 1, 3) := by decide +kernel
theorem dX4_countByMinute_54 : decode cX4_countByMinute 54 = .ok (.goto (-41), 3) := by decide +kernel
theorem dX4_countByMinute_57 : decode cX4_countByMinute 57 = .ok (.aload_n 0, 1) := by decide +kernel
theorem dX4_countByMinute_58 : decode cX4_countByMinute 58 = .ok (.getfield 9, 3) := by decide +kernel
theorem dX4_countByMinute_61 : decode cX4_countByMinute 61 = .ok (.iload_n 2, 1) := by decide +kernel
theorem dX4_countByMinute_62 : decode cX4_countByMinute 62 = .ok (.iload_n 3, 1) := by decide +kernel
theorem dX4_countByMinute_63 : decode cX4_countByMinute 63 = .ok (.iastore, 1) := by decide +kernel
theorem dX4_countByMinute_64 : decode cX4_countByMinute 64 = .ok (.iinc 2 1, 3) := by decide +kernel
theorem dX4_countByMinute_67 : decode cX4_countByMinute 67 = .ok (.goto (-65), 3) := by decide +kernel
theorem dX4_countByMinute_70 : decode cX4_countByMinute 70 = .ok (.return_, 1) := by decide +kernel
theorem dX4_countByHour_0 : decode cX4_countByHour 0 = .ok (.iconst 0, 1) := by decide +kernel
theorem dX4_countByHour_1 : decode cX4_countByHour 1 = .ok (.istore_n 2, 1) := by decide +kernel
theorem dX4_countByHour_2 : decode cX4_countByHour 2 = .ok (.iload_n 2, 1) := by decide +kernel
theorem dX4_countByHour_3 : decode cX4_countByHour 3 = .ok (.sipush 192, 3) := by decide +kernel
theorem dX4_countByHour_6 : decode cX4_countByHour 6 = .ok (.if_icmp .ge 138, 3) := by decide +kernel
theorem dX4_countByHour_9 : decode cX4_countByHour 9 = .ok (.iload_n 2, 1) := by decide +kernel
theorem dX4_countByHour_10 : decode cX4_countByHour 10 = .ok (.iconst 0, 1) := by decide +kernel
theorem dX4_countByHour_11 : decode cX4_countByHour 11 = .ok (.invokestatic 57, 3) := by decide +kernel
theorem dX4_countByHour_14 : decode cX4_countByHour 14 = .ok (.invokestatic 49, 3) := by decide +kernel
theorem dX4_countByHour_17 : decode cX4_countByHour 17 = .ok (.istore_n 3, 1) := by decide +kernel
theorem dX4_countByHour_18 : decode cX4_countByHour 18 = .ok (.iload_n 2, 1) := by decide +kernel
theorem dX4_countByHour_19 : decode cX4_countByHour 19 = .ok (.bipush 59, 2) := by decide +kernel
theorem dX4_countByHour_21 : decode cX4_countByHour 21 = .ok (.invokestatic 57, 3) := by decide +kernel
theorem dX4_countByHour_24 : decode cX4_countByHour 24 = .ok (.invokestatic 60, 3) := by decide +kernel
theorem dX4_countByHour_27 : decode cX4_countByHour 27 = .ok (.invokestatic 49, 3) := by decide +kernel
theorem dX4_countByHour_30 : decode cX4_countByHour 30 = .ok (.istore 4, 2) := by decide +kernel
theorem dX4_countByHour_32 : decode cX4_countByHour 32 = .ok (.iconst 0, 1) := by decide +kernel
theorem dX4_countByHour_33 : decode cX4_countByHour 33 = .ok (.istore 5, 2) := by decide +kernel
theorem dX4_countByHour_35 : decode cX4_countByHour 35 = .ok (.iconst 0, 1) := by decide +kernel
theorem dX4_countByHour_36 : decode cX4_countByHour 36 = .ok (.istore 6, 2) := by decide +kernel
theorem dX4_countByHour_38 : decode cX4_countByHour 38 = .ok (.iload 6, 2) := by decide +kernel
theorem dX4_countByHour_40 : decode cX4_countByHour 40 = .ok (.aload_n 0, 1) := by decide +kernel
theorem dX4_countByHour_41 : decode cX4_countByHour 41 = .ok (.getfield 26, 3) := by decide +kernel
theorem dX4_countByHour_44 : decode cX4_countByHour 44 = .ok (.if_icmp .ge 24, 3) := by decide +kernel
theorem dX4_countByHour_47 : decode cX4_countByHour 47 = .ok (.iload 5, 2) := by decide +kernel
theorem dX4_countByHour_49 : decode cX4_countByHour 49 = .ok (.aload_n 1, 1) := by decide +kernel
theorem dX4_countByHour_50 : decode cX4_countByHour 50 = .ok (.iload 6, 2) := by decide +kernel
theorem dX4_countByHour_52 : decode cX4_countByHour 52 = .ok (.iload 4, 2) := by decide +kernel
theorem dX4_countByHour_54 : decode cX4_countByHour 54 = .ok (.ldc 63, 2) := by decide +kernel
theorem dX4_countByHour_56 : decode cX4_countByHour 56 = .ok (.invokevirtual 53, 3) := by decide +kernel
theorem dX4_countByHour_59 : decode cX4_countByHour 59 = .ok (.iadd, 1) := by decide +kernel
theorem dX4_countByHour_60 : decode cX4_countByHour 60 = .ok (.istore 5, 2) := by decide +kernel
theorem dX4_countByHour_62 : decode cX4_countByHour 62 = .ok (.iinc 6 1, 3) := by decide +kernel
theorem dX4_countByHour_65 : decode cX4_countByHour 65 = .ok (.goto (-27), 3) := by decide +kernel
theorem dX4_countByHour_68 : decode cX4_countByHour 68 = .ok (.aload_n 0, 1) := by decide +kernel
theorem dX4_countByHour_69 : decode cX4_countByHour 69 = .ok (.getfield 17, 3) := by decide +kernel
theorem dX4_countByHour_72 : decode cX4_countByHour 72 = .ok (.iconst 0, 1) := by decide +kernel
theorem dX4_countByHour_73 : decode cX4_countByHour 73 = .ok (.aaload, 1) := by decide +kernel
theorem dX4_countByHour_74 : decode cX4_countByHour 74 = .ok (.iload_n 2, 1) := by decide +kernel
theorem dX4_countByHour_75 : decode cX4_countByHour 75 = .ok (.iload 5, 2) := by decide +kernel
theorem dX4_countByHour_77 : decode cX4_countByHour 77 = .ok (.iastore, 1) := by decide +kernel
theorem dX4_countByHour_78 : decode cX4_countByHour 78 = .ok (.iconst 0, 1) := by decide +kernel
theorem dX4_countByHour_79 : decode cX4_countByHour 79 = .ok (.istore 6, 2) := by decide +kernel
theorem dX4_countByHour_81 : decode cX4_countByHour 81 = .ok (.iload 6, 2) := by decide +kernel
theorem dX4_countByHour_83 : decode cX4_countByHour 83 = .ok (.aload_n 0, 1) := by decide +kernel
theorem dX4_countByHour_84 : decode cX4_countByHour 84 = .ok (.getfield 26, 3) := by decide +kernel
theorem dX4_countByHour_87 : decode cX4_countByHour 87 = .ok (.if_icmp .ge 51, 3) := by decide +kernel
theorem dX4_countByHour_90 : decode cX4_countByHour 90 = .ok (.iload 5, 2) := by decide +kernel
theorem dX4_countByHour_92 : decode cX4_countByHour 92 = .ok (.aload_n 1, 1) := by decide +kernel
theorem dX4_countByHour_93 : decode cX4_countByHour 93 = .ok (.iload 6, 2) := by decide +kernel
theorem dX4_countByHour_95 : decode cX4_countByHour 95 = .ok (.iload_n 3, 1) := by decide +kernel
theorem dX4_countByHour_96 : decode cX4_countByHour 96 = .ok (.ldc 63, 2) := by decide +kernel
theorem dX4_countByHour_98 : decode cX4_countByHour 98 = .ok (.invokevirtual 53, 3) := by decide +kernel
theorem dX4_countByHour_101 : decode cX4_countByHour 101 = .ok (.iadd, 1) := by decide +kernel
theorem dX4_countByHour_102 : decode cX4_countByHour 102 = .ok (.istore 5, 2) := by decide +kernel
theorem dX4_countByHour_104 : decode cX4_countByHour 104 = .ok (.iload 5, 2) := by decide +kernel
theorem dX4_countByHour_106 : decode cX4_countByHour 106 = .ok (.aload_n 1, 1) := by decide +kernel
theorem dX4_countByHour_107 : decode cX4_countByHour 107 = .ok (.iload 6, 2) := by decide +kernel
theorem dX4_countByHour_109 : decode cX4_countByHour 109 = .ok (.iload 4, 2) := by decide +kernel
theorem dX4_countByHour_111 : decode cX4_countByHour 111 = .ok (.ldc 63, 2) := by decide +kernel
theorem dX4_countByHour_113 : decode cX4_countByHour 113 = .ok (.invokevirtual 53, 3) := by decide +kernel
theorem dX4_countByHour_116 : decode cX4_countByHour 116 = .ok (.isub, 1) := by decide +kernel
theorem dX4_countByHour_117 : decode cX4_countByHour 117 = .ok (.istore 5, 2) := by decide +kernel
theorem dX4_countByHour_119 : decode cX4_countByHour 119 = .ok (.aload_n 0, 1) := by decide +kernel
theorem dX4_countByHour_120 : decode cX4_countByHour 120 = .ok (.getfield 17, 3) := by decide +kernel
theorem dX4_countByHour_123 : decode cX4_countByHour 123 = .ok (.iload 6, 2) := by decide +kernel
theorem dX4_countByHour_125 : decode cX4_countByHour 125 = .ok (.iconst 1, 1) := by decide +kernel
theorem dX4_countByHour_126 : decode cX4_countByHour 126 = .ok (.iadd, 1) := by decide +kernel
theorem dX4_countByHour_127 : decode cX4_countByHour 127 = .ok (.aaload, 1) := by decide +kernel
theorem dX4_countByHour_128 : decode cX4_countByHour 128 = .ok (.iload_n 2, 1) := by decide +kernel
theorem dX4_countByHour_129 : decode cX4_countByHour 129 = .ok (.iload 5, 2) := by decide +kernel
theorem dX4_countByHour_131 : decode cX4_countByHour 131 = .ok (.iastore, 1) := by decide +kernel
theorem dX4_countByHour_132 : decode cX4_countByHour 132 = .ok (.iinc 6 1, 3) := by decide +kernel
theorem dX4_countByHour_135 : decode cX4_countByHour 135 = .ok (.goto (-54), 3) := by decide +kernel
theorem dX4_countByHour_138 : decode cX4_countByHour 138 = .ok (.iinc 2 1, 3) := by decide +kernel
theorem dX4_countByHour_141 : decode cX4_countByHour 141 = .ok (.goto (-139), 3) := by decide +kernel
theorem dX4_countByHour_144 : decode cX4_countByHour 144 = .ok (.return_, 1) := by decide +kernel
theorem dX4_timeAt_0 : decode cX4_timeAt 0 = .ok (.bipush 8, 2) := by decide +kernel
theorem dX4_timeAt_2 : decode cX4_timeAt 2 = .ok (.bipush 60, 2) := by decide +kernel
theorem dX4_timeAt_4 : decode cX4_timeAt 4 = .ok (.iload_n 0, 1) := by decide +kernel
theorem dX4_timeAt_5 : decode cX4_timeAt 5 = .ok (.bipush 8, 2) := by decide +kernel
theorem dX4_timeAt_7 : decode cX4_timeAt 7 = .ok (.idiv, 1) := by decide +kernel
theorem dX4_timeAt_8 : decode cX4_timeAt 8 = .ok (.imul, 1) := by decide +kernel
theorem dX4_timeAt_9 : decode cX4_timeAt 9 = .ok (.iload_n 1, 1) := by decide +kernel
theorem dX4_timeAt_10 : decode cX4_timeAt 10 = .ok (.iadd, 1) := by decide +kernel
theorem dX4_timeAt_11 : decode cX4_timeAt 11 = .ok (.imul, 1) := by decide +kernel
theorem dX4_timeAt_12 : decode cX4_timeAt 12 = .ok (.iload_n 0, 1) := by decide +kernel
theorem dX4_timeAt_13 : decode cX4_timeAt 13 = .ok (.bipush 8, 2) := by decide +kernel
theorem dX4_timeAt_15 : decode cX4_timeAt 15 = .ok (.irem, 1) := by decide +kernel
theorem dX4_timeAt_16 : decode cX4_timeAt 16 = .ok (.iadd, 1) := by decide +kernel
theorem dX4_timeAt_17 : decode cX4_timeAt 17 = .ok (.ireturn, 1) := by decide +kernel
theorem dX4_missesAt_0 : decode cX4_missesAt 0 = .ok (.iload_n 1, 1) := by decide +kernel
theorem dX4_missesAt_1 : decode cX4_missesAt 1 = .ok (.invokestatic 64, 3) := by decide +kernel
theorem dX4_missesAt_4 : decode cX4_missesAt 4 = .ok (.bipush 60, 2) := by decide +kernel
theorem dX4_missesAt_6 : decode cX4_missesAt 6 = .ok (.irem, 1) := by decide +kernel
theorem dX4_missesAt_7 : decode cX4_missesAt 7 = .ok (.istore_n 2, 1) := by decide +kernel
theorem dX4_missesAt_8 : decode cX4_missesAt 8 = .ok (.iload_n 1, 1) := by decide +kernel
theorem dX4_missesAt_9 : decode cX4_missesAt 9 = .ok (.sipush 480, 3) := by decide +kernel
theorem dX4_missesAt_12 : decode cX4_missesAt 12 = .ok (.idiv, 1) := by decide +kernel
theorem dX4_missesAt_13 : decode cX4_missesAt 13 = .ok (.bipush 8, 2) := by decide +kernel
theorem dX4_missesAt_15 : decode cX4_missesAt 15 = .ok (.imul, 1) := by decide +kernel
theorem dX4_missesAt_16 : decode cX4_missesAt 16 = .ok (.iload_n 1, 1) := by decide +kernel
theorem dX4_missesAt_17 : decode cX4_missesAt 17 = .ok (.bipush 8, 2) := by decide +kernel
theorem dX4_missesAt_19 : decode cX4_missesAt 19 = .ok (.irem, 1) := by decide +kernel
theorem dX4_missesAt_20 : decode cX4_missesAt 20 = .ok (.iadd, 1) := by decide +kernel
theorem dX4_missesAt_21 : decode cX4_missesAt 21 = .ok (.istore_n 3, 1) := by decide +kernel
theorem dX4_missesAt_22 : decode cX4_missesAt 22 = .ok (.aload_n 0, 1) := by decide +kernel
theorem dX4_missesAt_23 : decode cX4_missesAt 23 = .ok (.getfield 9, 3) := by decide +kernel
theorem dX4_missesAt_26 : decode cX4_missesAt 26 = .ok (.iload_n 2, 1) := by decide +kernel
theorem dX4_missesAt_27 : decode cX4_missesAt 27 = .ok (.iaload, 1) := by decide +kernel
theorem dX4_missesAt_28 : decode cX4_missesAt 28 = .ok (.aload_n 0, 1) := by decide +kernel
theorem dX4_missesAt_29 : decode cX4_missesAt 29 = .ok (.getfield 17, 3) := by decide +kernel
theorem dX4_missesAt_32 : decode cX4_missesAt 32 = .ok (.aload_n 0, 1) := by decide +kernel
theorem dX4_missesAt_33 : decode cX4_missesAt 33 = .ok (.getfield 26, 3) := by decide +kernel
theorem dX4_missesAt_36 : decode cX4_missesAt 36 = .ok (.bipush 60, 2) := by decide +kernel
theorem dX4_missesAt_38 : decode cX4_missesAt 38 = .ok (.iload_n 2, 1) := by decide +kernel
theorem dX4_missesAt_39 : decode cX4_missesAt 39 = .ok (.isub, 1) := by decide +kernel
theorem dX4_missesAt_40 : decode cX4_missesAt 40 = .ok (.invokestatic 67, 3) := by decide +kernel
theorem dX4_missesAt_43 : decode cX4_missesAt 43 = .ok (.aaload, 1) := by decide +kernel
theorem dX4_missesAt_44 : decode cX4_missesAt 44 = .ok (.iload_n 3, 1) := by decide +kernel
theorem dX4_missesAt_45 : decode cX4_missesAt 45 = .ok (.iaload, 1) := by decide +kernel
theorem dX4_missesAt_46 : decode cX4_missesAt 46 = .ok (.iadd, 1) := by decide +kernel
theorem dX4_missesAt_47 : decode cX4_missesAt 47 = .ok (.ireturn, 1) := by decide +kernel
theorem dX4_choose_0 : decode cX4_choose 0 = .ok (.aload_n 0, 1) := by decide +kernel
theorem dX4_choose_1 : decode cX4_choose 1 = .ok (.iconst 0, 1) := by decide +kernel
theorem dX4_choose_2 : decode cX4_choose 2 = .ok (.putfield 37, 3) := by decide +kernel
theorem dX4_choose_5 : decode cX4_choose 5 = .ok (.aload_n 0, 1) := by decide +kernel
theorem dX4_choose_6 : decode cX4_choose 6 = .ok (.aload_n 0, 1) := by decide +kernel
theorem dX4_choose_7 : decode cX4_choose 7 = .ok (.iconst 0, 1) := by decide +kernel
theorem dX4_choose_8 : decode cX4_choose 8 = .ok (.invokevirtual 72, 3) := by decide +kernel
theorem dX4_choose_11 : decode cX4_choose 11 = .ok (.putfield 75, 3) := by decide +kernel
theorem dX4_choose_14 : decode cX4_choose 14 = .ok (.bipush 115, 2) := by decide +kernel
theorem dX4_choose_16 : decode cX4_choose 16 = .ok (.istore_n 1, 1) := by decide +kernel
theorem dX4_choose_17 : decode cX4_choose 17 = .ok (.iconst 1, 1) := by decide +kernel
theorem dX4_choose_18 : decode cX4_choose 18 = .ok (.istore_n 2, 1) := by decide +kernel
theorem dX4_choose_19 : decode cX4_choose 19 = .ok (.iload_n 2, 1) := by decide +kernel
theorem dX4_choose_20 : decode cX4_choose 20 = .ok (.sipush 11520, 3) := by decide +kernel
theorem dX4_choose_23 : decode cX4_choose 23 = .ok (.if_icmp .ge 48, 3) := by decide +kernel
theorem dX4_choose_26 : decode cX4_choose 26 = .ok (.aload_n 0, 1) := by decide +kernel
theorem dX4_choose_27 : decode cX4_choose 27 = .ok (.iload_n 2, 1) := by decide +kernel
theorem dX4_choose_28 : decode cX4_choose 28 = .ok (.invokevirtual 72, 3) := by decide +kernel
theorem dX4_choose_31 : decode cX4_choose 31 = .ok (.istore_n 3, 1) := by decide +kernel
theorem dX4_choose_32 : decode cX4_choose 32 = .ok (.iload_n 3, 1) := by decide +kernel
theorem dX4_choose_33 : decode cX4_choose 33 = .ok (.aload_n 0, 1) := by decide +kernel
theorem dX4_choose_34 : decode cX4_choose 34 = .ok (.getfield 75, 3) := by decide +kernel
theorem dX4_choose_37 : decode cX4_choose 37 = .ok (.if_icmp .ge 21, 3) := by decide +kernel
theorem dX4_choose_40 : decode cX4_choose 40 = .ok (.aload_n 0, 1) := by decide +kernel
theorem dX4_choose_41 : decode cX4_choose 41 = .ok (.getfield 75, 3) := by decide +kernel
theorem dX4_choose_44 : decode cX4_choose 44 = .ok (.istore_n 1, 1) := by decide +kernel
theorem dX4_choose_45 : decode cX4_choose 45 = .ok (.aload_n 0, 1) := by decide +kernel
theorem dX4_choose_46 : decode cX4_choose 46 = .ok (.iload_n 3, 1) := by decide +kernel
theorem dX4_choose_47 : decode cX4_choose 47 = .ok (.putfield 75, 3) := by decide +kernel
theorem dX4_choose_50 : decode cX4_choose 50 = .ok (.aload_n 0, 1) := by decide +kernel
theorem dX4_choose_51 : decode cX4_choose 51 = .ok (.iload_n 2, 1) := by decide +kernel
theorem dX4_choose_52 : decode cX4_choose 52 = .ok (.putfield 37, 3) := by decide +kernel
theorem dX4_choose_55 : decode cX4_choose 55 = .ok (.goto 10, 3) := by decide +kernel
theorem dX4_choose_58 : decode cX4_choose 58 = .ok (.iload_n 3, 1) := by decide +kernel
theorem dX4_choose_59 : decode cX4_choose 59 = .ok (.iload_n 1, 1) := by decide +kernel
theorem dX4_choose_60 : decode cX4_choose 60 = .ok (.if_icmp .ge 5, 3) := by decide +kernel
theorem dX4_choose_63 : decode cX4_choose 63 = .ok (.iload_n 3, 1) := by decide +kernel
theorem dX4_choose_64 : decode cX4_choose 64 = .ok (.istore_n 1, 1) := by decide +kernel
theorem dX4_choose_65 : decode cX4_choose 65 = .ok (.iinc 2 1, 3) := by decide +kernel
theorem dX4_choose_68 : decode cX4_choose 68 = .ok (.goto (-49), 3) := by decide +kernel
theorem dX4_choose_71 : decode cX4_choose 71 = .ok (.aload_n 0, 1) := by decide +kernel
theorem dX4_choose_72 : decode cX4_choose 72 = .ok (.iload_n 1, 1) := by decide +kernel
theorem dX4_choose_73 : decode cX4_choose 73 = .ok (.aload_n 0, 1) := by decide +kernel
theorem dX4_choose_74 : decode cX4_choose 74 = .ok (.getfield 75, 3) := by decide +kernel
theorem dX4_choose_77 : decode cX4_choose 77 = .ok (.isub, 1) := by decide +kernel
theorem dX4_choose_78 : decode cX4_choose 78 = .ok (.putfield 78, 3) := by decide +kernel
theorem dX4_choose_81 : decode cX4_choose 81 = .ok (.return_, 1) := by decide +kernel
theorem dX4_closeCount_0 : decode cX4_closeCount 0 = .ok (.iconst 0, 1) := by decide +kernel
theorem dX4_closeCount_1 : decode cX4_closeCount 1 = .ok (.istore_n 2, 1) := by decide +kernel
theorem dX4_closeCount_2 : decode cX4_closeCount 2 = .ok (.iconst 0, 1) := by decide +kernel
theorem dX4_closeCount_3 : decode cX4_closeCount 3 = .ok (.istore_n 3, 1) := by decide +kernel
theorem dX4_closeCount_4 : decode cX4_closeCount 4 = .ok (.iload_n 3, 1) := by decide +kernel
theorem dX4_closeCount_5 : decode cX4_closeCount 5 = .ok (.sipush 11520, 3) := by decide +kernel
theorem dX4_closeCount_8 : decode cX4_closeCount 8 = .ok (.if_icmp .ge 21, 3) := by decide +kernel
theorem dX4_closeCount_11 : decode cX4_closeCount 11 = .ok (.aload_n 0, 1) := by decide +kernel
theorem dX4_closeCount_12 : decode cX4_closeCount 12 = .ok (.iload_n 3, 1) := by decide +kernel
theorem dX4_closeCount_13 : decode cX4_closeCount 13 = .ok (.invokevirtual 72, 3) := by decide +kernel
theorem dX4_closeCount_16 : decode cX4_closeCount 16 = .ok (.iload_n 1, 1) := by decide +kernel
theorem dX4_closeCount_17 : decode cX4_closeCount 17 = .ok (.if_icmp .gt 6, 3) := by decide +kernel
theorem dX4_closeCount_20 : decode cX4_closeCount 20 = .ok (.iinc 2 1, 3) := by decide +kernel
theorem dX4_closeCount_23 : decode cX4_closeCount 23 = .ok (.iinc 3 1, 3) := by decide +kernel
theorem dX4_closeCount_26 : decode cX4_closeCount 26 = .ok (.goto (-22), 3) := by decide +kernel
theorem dX4_closeCount_29 : decode cX4_closeCount 29 = .ok (.iload_n 2, 1) := by decide +kernel
theorem dX4_closeCount_30 : decode cX4_closeCount 30 = .ok (.ireturn, 1) := by decide +kernel
theorem dX4_closeTime_0 : decode cX4_closeTime 0 = .ok (.iconst 0, 1) := by decide +kernel
theorem dX4_closeTime_1 : decode cX4_closeTime 1 = .ok (.istore_n 3, 1) := by decide +kernel
theorem dX4_closeTime_2 : decode cX4_closeTime 2 = .ok (.iconst 0, 1) := by decide +kernel
theorem dX4_closeTime_3 : decode cX4_closeTime 3 = .ok (.istore 4, 2) := by decide +kernel
theorem dX4_closeTime_5 : decode cX4_closeTime 5 = .ok (.iload 4, 2) := by decide +kernel
theorem dX4_closeTime_7 : decode cX4_closeTime 7 = .ok (.sipush 11520, 3) := by decide +kernel
theorem dX4_closeTime_10 : decode cX4_closeTime 10 = .ok (.if_icmp .ge 30, 3) := by decide +kernel
theorem dX4_closeTime_13 : decode cX4_closeTime 13 = .ok (.aload_n 0, 1) := by decide +kernel
theorem dX4_closeTime_14 : decode cX4_closeTime 14 = .ok (.iload 4, 2) := by decide +kernel
theorem dX4_closeTime_16 : decode cX4_closeTime 16 = .ok (.invokevirtual 72, 3) := by decide +kernel
theorem dX4_closeTime_19 : decode cX4_closeTime 19 = .ok (.iload_n 1, 1) := by decide +kernel
theorem dX4_closeTime_20 : decode cX4_closeTime 20 = .ok (.if_icmp .gt 14, 3) := by decide +kernel
theorem dX4_closeTime_23 : decode cX4_closeTime 23 = .ok (.iload_n 3, 1) := by decide +kernel
theorem dX4_closeTime_24 : decode cX4_closeTime 24 = .ok (.iload_n 2, 1) := by decide +kernel
theorem dX4_closeTime_25 : decode cX4_closeTime 25 = .ok (.if_icmp .ne 6, 3) := by decide +kernel
theorem dX4_closeTime_28 : decode cX4_closeTime 28 = .ok (.iload 4, 2) := by decide +kernel
theorem dX4_closeTime_30 : decode cX4_closeTime 30 = .ok (.ireturn, 1) := by decide +kernel
theorem dX4_closeTime_31 : decode cX4_closeTime 31 = .ok (.iinc 3 1, 3) := by decide +kernel
theorem dX4_closeTime_34 : decode cX4_closeTime 34 = .ok (.iinc 4 1, 3) := by decide +kernel
theorem dX4_closeTime_37 : decode cX4_closeTime 37 = .ok (.goto (-32), 3) := by decide +kernel
theorem dX4_closeTime_40 : decode cX4_closeTime 40 = .ok (.bipush (-9), 2) := by decide +kernel
theorem dX4_closeTime_42 : decode cX4_closeTime 42 = .ok (.ireturn, 1) := by decide +kernel
theorem dJ6_bitCount_0f7a4_0 : decode cJ6_bitCount_0f7a4 0 = .ok (.iload_n 0, 1) := by decide +kernel
theorem dJ6_bitCount_0f7a4_1 : decode cJ6_bitCount_0f7a4 1 = .ok (.iload_n 0, 1) := by decide +kernel
theorem dJ6_bitCount_0f7a4_2 : decode cJ6_bitCount_0f7a4 2 = .ok (.iconst 1, 1) := by decide +kernel
theorem dJ6_bitCount_0f7a4_3 : decode cJ6_bitCount_0f7a4 3 = .ok (.iushr, 1) := by decide +kernel
theorem dJ6_bitCount_0f7a4_4 : decode cJ6_bitCount_0f7a4 4 = .ok (.ldc_w 265, 3) := by decide +kernel
theorem dJ6_bitCount_0f7a4_7 : decode cJ6_bitCount_0f7a4 7 = .ok (.iand, 1) := by decide +kernel
theorem dJ6_bitCount_0f7a4_8 : decode cJ6_bitCount_0f7a4 8 = .ok (.isub, 1) := by decide +kernel
theorem dJ6_bitCount_0f7a4_9 : decode cJ6_bitCount_0f7a4 9 = .ok (.istore_n 0, 1) := by decide +kernel
theorem dJ6_bitCount_0f7a4_10 : decode cJ6_bitCount_0f7a4 10 = .ok (.iload_n 0, 1) := by decide +kernel
theorem dJ6_bitCount_0f7a4_11 : decode cJ6_bitCount_0f7a4 11 = .ok (.ldc_w 266, 3) := by decide +kernel
theorem dJ6_bitCount_0f7a4_14 : decode cJ6_bitCount_0f7a4 14 = .ok (.iand, 1) := by decide +kernel
theorem dJ6_bitCount_0f7a4_15 : decode cJ6_bitCount_0f7a4 15 = .ok (.iload_n 0, 1) := by decide +kernel
theorem dJ6_bitCount_0f7a4_16 : decode cJ6_bitCount_0f7a4 16 = .ok (.iconst 2, 1) := by decide +kernel
theorem dJ6_bitCount_0f7a4_17 : decode cJ6_bitCount_0f7a4 17 = .ok (.iushr, 1) := by decide +kernel
theorem dJ6_bitCount_0f7a4_18 : decode cJ6_bitCount_0f7a4 18 = .ok (.ldc_w 266, 3) := by decide +kernel
theorem dJ6_bitCount_0f7a4_21 : decode cJ6_bitCount_0f7a4 21 = .ok (.iand, 1) := by decide +kernel
theorem dJ6_bitCount_0f7a4_22 : decode cJ6_bitCount_0f7a4 22 = .ok (.iadd, 1) := by decide +kernel
theorem dJ6_bitCount_0f7a4_23 : decode cJ6_bitCount_0f7a4 23 = .ok (.istore_n 0, 1) := by decide +kernel
theorem dJ6_bitCount_0f7a4_24 : decode cJ6_bitCount_0f7a4 24 = .ok (.iload_n 0, 1) := by decide +kernel
theorem dJ6_bitCount_0f7a4_25 : decode cJ6_bitCount_0f7a4 25 = .ok (.iload_n 0, 1) := by decide +kernel
theorem dJ6_bitCount_0f7a4_26 : decode cJ6_bitCount_0f7a4 26 = .ok (.iconst 4, 1) := by decide +kernel
theorem dJ6_bitCount_0f7a4_27 : decode cJ6_bitCount_0f7a4 27 = .ok (.iushr, 1) := by decide +kernel
theorem dJ6_bitCount_0f7a4_28 : decode cJ6_bitCount_0f7a4 28 = .ok (.iadd, 1) := by decide +kernel
theorem dJ6_bitCount_0f7a4_29 : decode cJ6_bitCount_0f7a4 29 = .ok (.ldc_w 267, 3) := by decide +kernel
theorem dJ6_bitCount_0f7a4_32 : decode cJ6_bitCount_0f7a4 32 = .ok (.iand, 1) := by decide +kernel
theorem dJ6_bitCount_0f7a4_33 : decode cJ6_bitCount_0f7a4 33 = .ok (.istore_n 0, 1) := by decide +kernel
theorem dJ6_bitCount_0f7a4_34 : decode cJ6_bitCount_0f7a4 34 = .ok (.iload_n 0, 1) := by decide +kernel
theorem dJ6_bitCount_0f7a4_35 : decode cJ6_bitCount_0f7a4 35 = .ok (.iload_n 0, 1) := by decide +kernel
theorem dJ6_bitCount_0f7a4_36 : decode cJ6_bitCount_0f7a4 36 = .ok (.bipush 8, 2) := by decide +kernel
theorem dJ6_bitCount_0f7a4_38 : decode cJ6_bitCount_0f7a4 38 = .ok (.iushr, 1) := by decide +kernel
theorem dJ6_bitCount_0f7a4_39 : decode cJ6_bitCount_0f7a4 39 = .ok (.iadd, 1) := by decide +kernel
theorem dJ6_bitCount_0f7a4_40 : decode cJ6_bitCount_0f7a4 40 = .ok (.istore_n 0, 1) := by decide +kernel
theorem dJ6_bitCount_0f7a4_41 : decode cJ6_bitCount_0f7a4 41 = .ok (.iload_n 0, 1) := by decide +kernel
theorem dJ6_bitCount_0f7a4_42 : decode cJ6_bitCount_0f7a4 42 = .ok (.iload_n 0, 1) := by decide +kernel
theorem dJ6_bitCount_0f7a4_43 : decode cJ6_bitCount_0f7a4 43 = .ok (.bipush 16, 2) := by decide +kernel
theorem dJ6_bitCount_0f7a4_45 : decode cJ6_bitCount_0f7a4 45 = .ok (.iushr, 1) := by decide +kernel
theorem dJ6_bitCount_0f7a4_46 : decode cJ6_bitCount_0f7a4 46 = .ok (.iadd, 1) := by decide +kernel
theorem dJ6_bitCount_0f7a4_47 : decode cJ6_bitCount_0f7a4 47 = .ok (.istore_n 0, 1) := by decide +kernel
theorem dJ6_bitCount_0f7a4_48 : decode cJ6_bitCount_0f7a4 48 = .ok (.iload_n 0, 1) := by decide +kernel
theorem dJ6_bitCount_0f7a4_49 : decode cJ6_bitCount_0f7a4 49 = .ok (.bipush 63, 2) := by decide +kernel
theorem dJ6_bitCount_0f7a4_51 : decode cJ6_bitCount_0f7a4 51 = .ok (.iand, 1) := by decide +kernel
theorem dJ6_bitCount_0f7a4_52 : decode cJ6_bitCount_0f7a4 52 = .ok (.ireturn, 1) := by decide +kernel
theorem dJ9_floorMod_7cf53_0 : decode cJ9_floorMod_7cf53 0 = .ok (.iload_n 0, 1) := by decide +kernel
theorem dJ9_floorMod_7cf53_1 : decode cJ9_floorMod_7cf53 1 = .ok (.iload_n 1, 1) := by decide +kernel
theorem dJ9_floorMod_7cf53_2 : decode cJ9_floorMod_7cf53 2 = .ok (.irem, 1) := by decide +kernel
theorem dJ9_floorMod_7cf53_3 : decode cJ9_floorMod_7cf53 3 = .ok (.istore_n 2, 1) := by decide +kernel
theorem dJ9_floorMod_7cf53_4 : decode cJ9_floorMod_7cf53 4 = .ok (.iload_n 0, 1) := by decide +kernel
theorem dJ9_floorMod_7cf53_5 : decode cJ9_floorMod_7cf53 5 = .ok (.iload_n 1, 1) := by decide +kernel
theorem dJ9_floorMod_7cf53_6 : decode cJ9_floorMod_7cf53 6 = .ok (.ixor, 1) := by decide +kernel
theorem dJ9_floorMod_7cf53_7 : decode cJ9_floorMod_7cf53 7 = .ok (.ifCond .ge 11, 3) := by decide +kernel
theorem dJ9_floorMod_7cf53_10 : decode cJ9_floorMod_7cf53 10 = .ok (.iload_n 2, 1) := by decide +kernel
theorem dJ9_floorMod_7cf53_11 : decode cJ9_floorMod_7cf53 11 = .ok (.ifCond .eq 7, 3) := by decide +kernel
theorem dJ9_floorMod_7cf53_14 : decode cJ9_floorMod_7cf53 14 = .ok (.iload_n 2, 1) := by decide +kernel
theorem dJ9_floorMod_7cf53_15 : decode cJ9_floorMod_7cf53 15 = .ok (.iload_n 1, 1) := by decide +kernel
theorem dJ9_floorMod_7cf53_16 : decode cJ9_floorMod_7cf53 16 = .ok (.iadd, 1) := by decide +kernel
theorem dJ9_floorMod_7cf53_17 : decode cJ9_floorMod_7cf53 17 = .ok (.ireturn, 1) := by decide +kernel
theorem dJ9_floorMod_7cf53_18 : decode cJ9_floorMod_7cf53 18 = .ok (.iload_n 2, 1) := by decide +kernel
theorem dJ9_floorMod_7cf53_19 : decode cJ9_floorMod_7cf53 19 = .ok (.ireturn, 1) := by decide +kernel
theorem dJ9_min_7cf53_0 : decode cJ9_min_7cf53 0 = .ok (.iload_n 0, 1) := by decide +kernel
theorem dJ9_min_7cf53_1 : decode cJ9_min_7cf53 1 = .ok (.iload_n 1, 1) := by decide +kernel
theorem dJ9_min_7cf53_2 : decode cJ9_min_7cf53 2 = .ok (.if_icmp .gt 7, 3) := by decide +kernel
theorem dJ9_min_7cf53_5 : decode cJ9_min_7cf53 5 = .ok (.iload_n 0, 1) := by decide +kernel
theorem dJ9_min_7cf53_6 : decode cJ9_min_7cf53 6 = .ok (.goto 4, 3) := by decide +kernel
theorem dJ9_min_7cf53_9 : decode cJ9_min_7cf53 9 = .ok (.iload_n 1, 1) := by decide +kernel
theorem dJ9_min_7cf53_10 : decode cJ9_min_7cf53 10 = .ok (.ireturn, 1) := by decide +kernel
