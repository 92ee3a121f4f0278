theorem dX6_init_0 : decode cX6_init 0 = .ok (.aload_n 0, 1) := by decide +kernel
theorem dX6_init_1 : decode cX6_init 1 = .ok (.invokespecial 1, 3) := by decide +kernel
theorem dX6_init_4 : decode cX6_init 4 = .ok (.aload_n 0, 1) := by decide +kernel
theorem dX6_init_5 : decode cX6_init 5 = .ok (.bipush 126, 2) := by decide +kernel
theorem dX6_init_7 : decode cX6_init 7 = .ok (.newarray .int, 2) := by decide +kernel
theorem dX6_init_9 : decode cX6_init 9 = .ok (.putfield 7, 3) := by decide +kernel
theorem dX6_init_12 : decode cX6_init 12 = .ok (.aload_n 0, 1) := by decide +kernel
theorem dX6_init_13 : decode cX6_init 13 = .ok (.sipush 1260, 3) := by decide +kernel
theorem dX6_init_16 : decode cX6_init 16 = .ok (.newarray .int, 2) := by decide +kernel
theorem dX6_init_18 : decode cX6_init 18 = .ok (.putfield 13, 3) := by decide +kernel
theorem dX6_init_21 : decode cX6_init 21 = .ok (.aload_n 0, 1) := by decide +kernel
theorem dX6_init_22 : decode cX6_init 22 = .ok (.iconst 2, 1) := by decide +kernel
theorem dX6_init_23 : decode cX6_init 23 = .ok (.newarray .boolean, 2) := by decide +kernel
theorem dX6_init_25 : decode cX6_init 25 = .ok (.putfield 16, 3) := by decide +kernel
theorem dX6_init_28 : decode cX6_init 28 = .ok (.aload_n 0, 1) := by decide +kernel
theorem dX6_init_29 : decode cX6_init 29 = .ok (.sipush 252, 3) := by decide +kernel
theorem dX6_init_32 : decode cX6_init 32 = .ok (.newarray .int, 2) := by decide +kernel
theorem dX6_init_34 : decode cX6_init 34 = .ok (.putfield 20, 3) := by decide +kernel
theorem dX6_init_37 : decode cX6_init 37 = .ok (.aload_n 0, 1) := by decide +kernel
theorem dX6_init_38 : decode cX6_init 38 = .ok (.bipush 6, 2) := by decide +kernel
theorem dX6_init_40 : decode cX6_init 40 = .ok (.newarray .int, 2) := by decide +kernel
theorem dX6_init_42 : decode cX6_init 42 = .ok (.putfield 23, 3) := by decide +kernel
theorem dX6_init_45 : decode cX6_init 45 = .ok (.aload_n 0, 1) := by decide +kernel
theorem dX6_init_46 : decode cX6_init 46 = .ok (.bipush 6, 2) := by decide +kernel
theorem dX6_init_48 : decode cX6_init 48 = .ok (.newarray .int, 2) := by decide +kernel
theorem dX6_init_50 : decode cX6_init 50 = .ok (.putfield 26, 3) := by decide +kernel
theorem dX6_init_53 : decode cX6_init 53 = .ok (.aload_n 0, 1) := by decide +kernel
theorem dX6_init_54 : decode cX6_init 54 = .ok (.sipush 11520, 3) := by decide +kernel
theorem dX6_init_57 : decode cX6_init 57 = .ok (.newarray .int, 2) := by decide +kernel
theorem dX6_init_59 : decode cX6_init 59 = .ok (.putfield 29, 3) := by decide +kernel
theorem dX6_init_62 : decode cX6_init 62 = .ok (.aload_n 0, 1) := by decide +kernel
theorem dX6_init_63 : decode cX6_init 63 = .ok (.getfield 7, 3) := by decide +kernel
theorem dX6_init_66 : decode cX6_init 66 = .ok (.iconst 1, 1) := by decide +kernel
theorem dX6_init_67 : decode cX6_init 67 = .ok (.iconst 3, 1) := by decide +kernel
theorem dX6_init_68 : decode cX6_init 68 = .ok (.iastore, 1) := by decide +kernel
theorem dX6_init_69 : decode cX6_init 69 = .ok (.aload_n 0, 1) := by decide +kernel
theorem dX6_init_70 : decode cX6_init 70 = .ok (.getfield 7, 3) := by decide +kernel
theorem dX6_init_73 : decode cX6_init 73 = .ok (.iconst 2, 1) := by decide +kernel
theorem dX6_init_74 : decode cX6_init 74 = .ok (.iconst 5, 1) := by decide +kernel
theorem dX6_init_75 : decode cX6_init 75 = .ok (.iastore, 1) := by decide +kernel
theorem dX6_init_76 : decode cX6_init 76 = .ok (.aload_n 0, 1) := by decide +kernel
theorem dX6_init_77 : decode cX6_init 77 = .ok (.getfield 7, 3) := by decide +kernel
theorem dX6_init_80 : decode cX6_init 80 = .ok (.iconst 3, 1) := by decide +kernel
theorem dX6_init_81 : decode cX6_init 81 = .ok (.bipush (-9), 2) := by decide +kernel
theorem dX6_init_83 : decode cX6_init 83 = .ok (.iastore, 1) := by decide +kernel
theorem dX6_init_84 : decode cX6_init 84 = .ok (.return_, 1) := by decide +kernel
theorem dX6_in_0 : decode cX6_in 0 = .ok (.iload_n 0, 1) := by decide +kernel
theorem dX6_in_1 : decode cX6_in 1 = .ok (.iload_n 1, 1) := by decide +kernel
theorem dX6_in_2 : decode cX6_in 2 = .ok (.if_icmp .lt 12, 3) := by decide +kernel
theorem dX6_in_5 : decode cX6_in 5 = .ok (.iload_n 0, 1) := by decide +kernel
theorem dX6_in_6 : decode cX6_in 6 = .ok (.iload_n 2, 1) := by decide +kernel
theorem dX6_in_7 : decode cX6_in 7 = .ok (.if_icmp .gt 7, 3) := by decide +kernel
theorem dX6_in_10 : decode cX6_in 10 = .ok (.iconst 1, 1) := by decide +kernel
theorem dX6_in_11 : decode cX6_in 11 = .ok (.goto 4, 3) := by decide +kernel
theorem dX6_in_14 : decode cX6_in 14 = .ok (.iconst 0, 1) := by decide +kernel
theorem dX6_in_15 : decode cX6_in 15 = .ok (.ireturn, 1) := by decide +kernel
theorem dX6_has_0 : decode cX6_has 0 = .ok (.iload_n 0, 1) := by decide +kernel
theorem dX6_has_1 : decode cX6_has 1 = .ok (.iload_n 1, 1) := by decide +kernel
theorem dX6_has_2 : decode cX6_has 2 = .ok (.ishr, 1) := by decide +kernel
theorem dX6_has_3 : decode cX6_has 3 = .ok (.iconst 1, 1) := by decide +kernel
theorem dX6_has_4 : decode cX6_has 4 = .ok (.iand, 1) := by decide +kernel
theorem dX6_has_5 : decode cX6_has 5 = .ok (.iconst 1, 1) := by decide +kernel
theorem dX6_has_6 : decode cX6_has 6 = .ok (.if_icmp .ne 7, 3) := by decide +kernel
theorem dX6_has_9 : decode cX6_has 9 = .ok (.iconst 1, 1) := by decide +kernel
theorem dX6_has_10 : decode cX6_has 10 = .ok (.goto 4, 3) := by decide +kernel
theorem dX6_has_13 : decode cX6_has 13 = .ok (.iconst 0, 1) := by decide +kernel
theorem dX6_has_14 : decode cX6_has 14 = .ok (.ireturn, 1) := by decide +kernel
theorem dX6_many_0 : decode cX6_many 0 = .ok (.iconst 0, 1) := by decide +kernel
theorem dX6_many_1 : decode cX6_many 1 = .ok (.istore_n 1, 1) := by decide +kernel
theorem dX6_many_2 : decode cX6_many 2 = .ok (.iload_n 0, 1) := by decide +kernel
theorem dX6_many_3 : decode cX6_many 3 = .ok (.istore_n 2, 1) := by decide +kernel
theorem dX6_many_4 : decode cX6_many 4 = .ok (.iload_n 2, 1) := by decide +kernel
theorem dX6_many_5 : decode cX6_many 5 = .ok (.ifCond .eq 15, 3) := by decide +kernel
theorem dX6_many_8 : decode cX6_many 8 = .ok (.iinc 1 1, 3) := by decide +kernel
theorem dX6_many_11 : decode cX6_many 11 = .ok (.iload_n 2, 1) := by decide +kernel
theorem dX6_many_12 : decode cX6_many 12 = .ok (.iload_n 2, 1) := by decide +kernel
theorem dX6_many_13 : decode cX6_many 13 = .ok (.iconst 1, 1) := by decide +kernel
theorem dX6_many_14 : decode cX6_many 14 = .ok (.isub, 1) := by decide +kernel
theorem dX6_many_15 : decode cX6_many 15 = .ok (.iand, 1) := by decide +kernel
theorem dX6_many_16 : decode cX6_many 16 = .ok (.istore_n 2, 1) := by decide +kernel
theorem dX6_many_17 : decode cX6_many 17 = .ok (.goto (-13), 3) := by decide +kernel
theorem dX6_many_20 : decode cX6_many 20 = .ok (.iload_n 1, 1) := by decide +kernel
theorem dX6_many_21 : decode cX6_many 21 = .ok (.ireturn, 1) := by decide +kernel
theorem dX6_figures_0 : decode cX6_figures 0 = .ok (.iload_n 0, 1) := by decide +kernel
theorem dX6_figures_1 : decode cX6_figures 1 = .ok (.bipush 10, 2) := by decide +kernel
theorem dX6_figures_3 : decode cX6_figures 3 = .ok (.irem, 1) := by decide +kernel
theorem dX6_figures_4 : decode cX6_figures 4 = .ok (.iload_n 1, 1) := by decide +kernel
theorem dX6_figures_5 : decode cX6_figures 5 = .ok (.ishl, 1) := by decide +kernel
theorem dX6_figures_6 : decode cX6_figures 6 = .ok (.iload_n 0, 1) := by decide +kernel
theorem dX6_figures_7 : decode cX6_figures 7 = .ok (.bipush 10, 2) := by decide +kernel
theorem dX6_figures_9 : decode cX6_figures 9 = .ok (.idiv, 1) := by decide +kernel
theorem dX6_figures_10 : decode cX6_figures 10 = .ok (.iload_n 1, 1) := by decide +kernel
theorem dX6_figures_11 : decode cX6_figures 11 = .ok (.iconst 4, 1) := by decide +kernel
theorem dX6_figures_12 : decode cX6_figures 12 = .ok (.iadd, 1) := by decide +kernel
theorem dX6_figures_13 : decode cX6_figures 13 = .ok (.ishl, 1) := by decide +kernel
theorem dX6_figures_14 : decode cX6_figures 14 = .ok (.ior, 1) := by decide +kernel
theorem dX6_figures_15 : decode cX6_figures 15 = .ok (.ireturn, 1) := by decide +kernel
theorem dX6_bitsOf_0 : decode cX6_bitsOf 0 = .ok (.iload_n 0, 1) := by decide +kernel
theorem dX6_bitsOf_1 : decode cX6_bitsOf 1 = .ok (.bipush 8, 2) := by decide +kernel
theorem dX6_bitsOf_3 : decode cX6_bitsOf 3 = .ok (.idiv, 1) := by decide +kernel
theorem dX6_bitsOf_4 : decode cX6_bitsOf 4 = .ok (.istore_n 1, 1) := by decide +kernel
theorem dX6_bitsOf_5 : decode cX6_bitsOf 5 = .ok (.iload_n 0, 1) := by decide +kernel
theorem dX6_bitsOf_6 : decode cX6_bitsOf 6 = .ok (.iconst 1, 1) := by decide +kernel
theorem dX6_bitsOf_7 : decode cX6_bitsOf 7 = .ok (.invokestatic 32, 3) := by decide +kernel
theorem dX6_bitsOf_10 : decode cX6_bitsOf 10 = .ok (.ifCond .eq 7, 3) := by decide +kernel
theorem dX6_bitsOf_13 : decode cX6_bitsOf 13 = .ok (.iconst 2, 1) := by decide +kernel
theorem dX6_bitsOf_14 : decode cX6_bitsOf 14 = .ok (.goto 4, 3) := by decide +kernel
theorem dX6_bitsOf_17 : decode cX6_bitsOf 17 = .ok (.iconst 0, 1) := by decide +kernel
theorem dX6_bitsOf_18 : decode cX6_bitsOf 18 = .ok (.istore_n 2, 1) := by decide +kernel
theorem dX6_bitsOf_19 : decode cX6_bitsOf 19 = .ok (.iload_n 2, 1) := by decide +kernel
theorem dX6_bitsOf_20 : decode cX6_bitsOf 20 = .ok (.iload_n 0, 1) := by decide +kernel
theorem dX6_bitsOf_21 : decode cX6_bitsOf 21 = .ok (.iconst 0, 1) := by decide +kernel
theorem dX6_bitsOf_22 : decode cX6_bitsOf 22 = .ok (.invokestatic 32, 3) := by decide +kernel
theorem dX6_bitsOf_25 : decode cX6_bitsOf 25 = .ok (.ifCond .eq 7, 3) := by decide +kernel
theorem dX6_bitsOf_28 : decode cX6_bitsOf 28 = .ok (.iconst 4, 1) := by decide +kernel
theorem dX6_bitsOf_29 : decode cX6_bitsOf 29 = .ok (.goto 4, 3) := by decide +kernel
theorem dX6_bitsOf_32 : decode cX6_bitsOf 32 = .ok (.iconst 0, 1) := by decide +kernel
theorem dX6_bitsOf_33 : decode cX6_bitsOf 33 = .ok (.ior, 1) := by decide +kernel
theorem dX6_bitsOf_34 : decode cX6_bitsOf 34 = .ok (.istore_n 2, 1) := by decide +kernel
theorem dX6_bitsOf_35 : decode cX6_bitsOf 35 = .ok (.iload_n 2, 1) := by decide +kernel
theorem dX6_bitsOf_36 : decode cX6_bitsOf 36 = .ok (.iload_n 0, 1) := by decide +kernel
theorem dX6_bitsOf_37 : decode cX6_bitsOf 37 = .ok (.iconst 2, 1) := by decide +kernel
theorem dX6_bitsOf_38 : decode cX6_bitsOf 38 = .ok (.invokestatic 32, 3) := by decide +kernel
theorem dX6_bitsOf_41 : decode cX6_bitsOf 41 = .ok (.ifCond .eq 8, 3) := by decide +kernel
theorem dX6_bitsOf_44 : decode cX6_bitsOf 44 = .ok (.bipush 8, 2) := by decide +kernel
theorem dX6_bitsOf_46 : decode cX6_bitsOf 46 = .ok (.goto 4, 3) := by decide +kernel
theorem dX6_bitsOf_49 : decode cX6_bitsOf 49 = .ok (.iconst 0, 1) := by decide +kernel
theorem dX6_bitsOf_50 : decode cX6_bitsOf 50 = .ok (.ior, 1) := by decide +kernel
theorem dX6_bitsOf_51 : decode cX6_bitsOf 51 = .ok (.istore_n 2, 1) := by decide +kernel
theorem dX6_bitsOf_52 : decode cX6_bitsOf 52 = .ok (.iload_n 1, 1) := by decide +kernel
theorem dX6_bitsOf_53 : decode cX6_bitsOf 53 = .ok (.bipush 60, 2) := by decide +kernel
theorem dX6_bitsOf_55 : decode cX6_bitsOf 55 = .ok (.irem, 1) := by decide +kernel
theorem dX6_bitsOf_56 : decode cX6_bitsOf 56 = .ok (.iconst 4, 1) := by decide +kernel
theorem dX6_bitsOf_57 : decode cX6_bitsOf 57 = .ok (.invokestatic 36, 3) := by decide +kernel
theorem dX6_bitsOf_60 : decode cX6_bitsOf 60 = .ok (.istore_n 3, 1) := by decide +kernel
theorem dX6_bitsOf_61 : decode cX6_bitsOf 61 = .ok (.iload_n 1, 1) := by decide +kernel
theorem dX6_bitsOf_62 : decode cX6_bitsOf 62 = .ok (.bipush 60, 2) := by decide +kernel
theorem dX6_bitsOf_64 : decode cX6_bitsOf 64 = .ok (.idiv, 1) := by decide +kernel
theorem dX6_bitsOf_65 : decode cX6_bitsOf 65 = .ok (.bipush 12, 2) := by decide +kernel
theorem dX6_bitsOf_67 : decode cX6_bitsOf 67 = .ok (.invokestatic 36, 3) := by decide +kernel
theorem dX6_bitsOf_70 : decode cX6_bitsOf 70 = .ok (.istore 4, 2) := by decide +kernel
theorem dX6_bitsOf_72 : decode cX6_bitsOf 72 = .ok (.iload_n 3, 1) := by decide +kernel
theorem dX6_bitsOf_73 : decode cX6_bitsOf 73 = .ok (.iload_n 3, 1) := by decide +kernel
theorem dX6_bitsOf_74 : decode cX6_bitsOf 74 = .ok (.invokestatic 40, 3) := by decide +kernel
theorem dX6_bitsOf_77 : decode cX6_bitsOf 77 = .ok (.iconst 2, 1) := by decide +kernel
theorem dX6_bitsOf_78 : decode cX6_bitsOf 78 = .ok (.irem, 1) := by decide +kernel
theorem dX6_bitsOf_79 : decode cX6_bitsOf 79 = .ok (.bipush 11, 2) := by decide +kernel
theorem dX6_bitsOf_81 : decode cX6_bitsOf 81 = .ok (.ishl, 1) := by decide +kernel
theorem dX6_bitsOf_82 : decode cX6_bitsOf 82 = .ok (.ior, 1) := by decide +kernel
theorem dX6_bitsOf_83 : decode cX6_bitsOf 83 = .ok (.istore_n 3, 1) := by decide +kernel
theorem dX6_bitsOf_84 : decode cX6_bitsOf 84 = .ok (.iload 4, 2) := by decide +kernel
theorem dX6_bitsOf_86 : decode cX6_bitsOf 86 = .ok (.iload 4, 2) := by decide +kernel
theorem dX6_bitsOf_88 : decode cX6_bitsOf 88 = .ok (.invokestatic 40, 3) := by decide +kernel
theorem dX6_bitsOf_91 : decode cX6_bitsOf 91 = .ok (.iconst 2, 1) := by decide +kernel
theorem dX6_bitsOf_92 : decode cX6_bitsOf 92 = .ok (.irem, 1) := by decide +kernel
theorem dX6_bitsOf_93 : decode cX6_bitsOf 93 = .ok (.bipush 18, 2) := by decide +kernel
theorem dX6_bitsOf_95 : decode cX6_bitsOf 95 = .ok (.ishl, 1) := by decide +kernel
theorem dX6_bitsOf_96 : decode cX6_bitsOf 96 = .ok (.ior, 1) := by decide +kernel
theorem dX6_bitsOf_97 : decode cX6_bitsOf 97 = .ok (.istore 4, 2) := by decide +kernel
theorem dX6_bitsOf_99 : decode cX6_bitsOf 99 = .ok (.iload_n 2, 1) := by decide +kernel
theorem dX6_bitsOf_100 : decode cX6_bitsOf 100 = .ok (.iload_n 3, 1) := by decide +kernel
theorem dX6_bitsOf_101 : decode cX6_bitsOf 101 = .ok (.ior, 1) := by decide +kernel
theorem dX6_bitsOf_102 : decode cX6_bitsOf 102 = .ok (.iload 4, 2) := by decide +kernel
theorem dX6_bitsOf_104 : decode cX6_bitsOf 104 = .ok (.ior, 1) := by decide +kernel
theorem dX6_bitsOf_105 : decode cX6_bitsOf 105 = .ok (.ireturn, 1) := by decide +kernel
theorem dX6_nextOf_0 : decode cX6_nextOf 0 = .ok (.iload_n 0, 1) := by decide +kernel
theorem dX6_nextOf_1 : decode cX6_nextOf 1 = .ok (.bipush 8, 2) := by decide +kernel
theorem dX6_nextOf_3 : decode cX6_nextOf 3 = .ok (.idiv, 1) := by decide +kernel
theorem dX6_nextOf_4 : decode cX6_nextOf 4 = .ok (.iconst 1, 1) := by decide +kernel
theorem dX6_nextOf_5 : decode cX6_nextOf 5 = .ok (.iadd, 1) := by decide +kernel
theorem dX6_nextOf_6 : decode cX6_nextOf 6 = .ok (.sipush 1440, 3) := by decide +kernel
theorem dX6_nextOf_9 : decode cX6_nextOf 9 = .ok (.irem, 1) := by decide +kernel
theorem dX6_nextOf_10 : decode cX6_nextOf 10 = .ok (.istore_n 1, 1) := by decide +kernel
theorem dX6_nextOf_11 : decode cX6_nextOf 11 = .ok (.iload_n 1, 1) := by decide +kernel
theorem dX6_nextOf_12 : decode cX6_nextOf 12 = .ok (.bipush 60, 2) := by decide +kernel
theorem dX6_nextOf_14 : decode cX6_nextOf 14 = .ok (.irem, 1) := by decide +kernel
theorem dX6_nextOf_15 : decode cX6_nextOf 15 = .ok (.ifCond .eq 13, 3) := by decide +kernel
theorem dX6_nextOf_18 : decode cX6_nextOf 18 = .ok (.bipush 8, 2) := by decide +kernel
theorem dX6_nextOf_20 : decode cX6_nextOf 20 = .ok (.iload_n 1, 1) := by decide +kernel
theorem dX6_nextOf_21 : decode cX6_nextOf 21 = .ok (.imul, 1) := by decide +kernel
theorem dX6_nextOf_22 : decode cX6_nextOf 22 = .ok (.iload_n 0, 1) := by decide +kernel
theorem dX6_nextOf_23 : decode cX6_nextOf 23 = .ok (.bipush 8, 2) := by decide +kernel
theorem dX6_nextOf_25 : decode cX6_nextOf 25 = .ok (.irem, 1) := by decide +kernel
theorem dX6_nextOf_26 : decode cX6_nextOf 26 = .ok (.iadd, 1) := by decide +kernel
theorem dX6_nextOf_27 : decode cX6_nextOf 27 = .ok (.ireturn, 1) := by decide +kernel
theorem dX6_nextOf_28 : decode cX6_nextOf 28 = .ok (.iload_n 0, 1) := by decide +kernel
theorem dX6_nextOf_29 : decode cX6_nextOf 29 = .ok (.iconst 2, 1) := by decide +kernel
theorem dX6_nextOf_30 : decode cX6_nextOf 30 = .ok (.invokestatic 32, 3) := by decide +kernel
theorem dX6_nextOf_33 : decode cX6_nextOf 33 = .ok (.istore_n 2, 1) := by decide +kernel
theorem dX6_nextOf_34 : decode cX6_nextOf 34 = .ok (.iload_n 0, 1) := by decide +kernel
theorem dX6_nextOf_35 : decode cX6_nextOf 35 = .ok (.iconst 1, 1) := by decide +kernel
theorem dX6_nextOf_36 : decode cX6_nextOf 36 = .ok (.invokestatic 32, 3) := by decide +kernel
theorem dX6_nextOf_39 : decode cX6_nextOf 39 = .ok (.ifCond .eq 32, 3) := by decide +kernel
theorem dX6_nextOf_42 : decode cX6_nextOf 42 = .ok (.iload_n 2, 1) := by decide +kernel
theorem dX6_nextOf_43 : decode cX6_nextOf 43 = .ok (.ifCond .ne 7, 3) := by decide +kernel
theorem dX6_nextOf_46 : decode cX6_nextOf 46 = .ok (.iconst 1, 1) := by decide +kernel
theorem dX6_nextOf_47 : decode cX6_nextOf 47 = .ok (.goto 4, 3) := by decide +kernel
theorem dX6_nextOf_50 : decode cX6_nextOf 50 = .ok (.iconst 0, 1) := by decide +kernel
theorem dX6_nextOf_51 : decode cX6_nextOf 51 = .ok (.istore_n 2, 1) := by decide +kernel
theorem dX6_nextOf_52 : decode cX6_nextOf 52 = .ok (.iload_n 1, 1) := by decide +kernel
theorem dX6_nextOf_53 : decode cX6_nextOf 53 = .ok (.iload_n 2, 1) := by decide +kernel
theorem dX6_nextOf_54 : decode cX6_nextOf 54 = .ok (.ifCond .eq 8, 3) := by decide +kernel
theorem dX6_nextOf_57 : decode cX6_nextOf 57 = .ok (.bipush 60, 2) := by decide +kernel
theorem dX6_nextOf_59 : decode cX6_nextOf 59 = .ok (.goto 6, 3) := by decide +kernel
theorem dX6_nextOf_62 : decode cX6_nextOf 62 = .ok (.sipush 1380, 3) := by decide +kernel
theorem dX6_nextOf_65 : decode cX6_nextOf 65 = .ok (.iadd, 1) := by decide +kernel
theorem dX6_nextOf_66 : decode cX6_nextOf 66 = .ok (.sipush 1440, 3) := by decide +kernel
theorem dX6_nextOf_69 : decode cX6_nextOf 69 = .ok (.irem, 1) := by decide +kernel
theorem dX6_nextOf_70 : decode cX6_nextOf 70 = .ok (.istore_n 1, 1) := by decide +kernel
theorem dX6_nextOf_71 : decode cX6_nextOf 71 = .ok (.bipush 8, 2) := by decide +kernel
theorem dX6_nextOf_73 : decode cX6_nextOf 73 = .ok (.iload_n 1, 1) := by decide +kernel
theorem dX6_nextOf_74 : decode cX6_nextOf 74 = .ok (.imul, 1) := by decide +kernel
theorem dX6_nextOf_75 : decode cX6_nextOf 75 = .ok (.iload_n 2, 1) := by decide +kernel
theorem dX6_nextOf_76 : decode cX6_nextOf 76 = .ok (.ifCond .eq 7, 3) := by decide +kernel
theorem dX6_nextOf_79 : decode cX6_nextOf 79 = .ok (.iconst 4, 1) := by decide +kernel
theorem dX6_nextOf_80 : decode cX6_nextOf 80 = .ok (.goto 4, 3) := by decide +kernel
theorem dX6_nextOf_83 : decode cX6_nextOf 83 = .ok (.iconst 0, 1) := by decide +kernel
theorem dX6_nextOf_84 : decode cX6_nextOf 84 = .ok (.iadd, 1) := by decide +kernel
theorem dX6_nextOf_85 : decode cX6_nextOf 85 = .ok (.ireturn, 1) := by decide +kernel
theorem dX6_later_0 : decode cX6_later 0 = .ok (.iload_n 0, 1) := by decide +kernel
theorem dX6_later_1 : decode cX6_later 1 = .ok (.istore_n 2, 1) := by decide +kernel
theorem dX6_later_2 : decode cX6_later 2 = .ok (.iconst 0, 1) := by decide +kernel
theorem dX6_later_3 : decode cX6_later 3 = .ok (.istore_n 3, 1) := by decide +kernel
theorem dX6_later_4 : decode cX6_later 4 = .ok (.iload_n 3, 1) := by decide +kernel
theorem dX6_later_5 : decode cX6_later 5 = .ok (.iload_n 1, 1) := by decide +kernel
theorem dX6_later_6 : decode cX6_later 6 = .ok (.if_icmp .ge 14, 3) := by decide +kernel
theorem dX6_later_9 : decode cX6_later 9 = .ok (.iload_n 2, 1) := by decide +kernel
theorem dX6_later_10 : decode cX6_later 10 = .ok (.invokestatic 44, 3) := by decide +kernel
theorem dX6_later_13 : decode cX6_later 13 = .ok (.istore_n 2, 1) := by decide +kernel
theorem dX6_later_14 : decode cX6_later 14 = .ok (.iinc 3 1, 3) := by decide +kernel
theorem dX6_later_17 : decode cX6_later 17 = .ok (.goto (-13), 3) := by decide +kernel
theorem dX6_later_20 : decode cX6_later 20 = .ok (.iload_n 2, 1) := by decide +kernel
theorem dX6_later_21 : decode cX6_later 21 = .ok (.ireturn, 1) := by decide +kernel
theorem dX6_isTime_0 : decode cX6_isTime 0 = .ok (.iload_n 0, 1) := by decide +kernel
theorem dX6_isTime_1 : decode cX6_isTime 1 = .ok (.iconst 0, 1) := by decide +kernel
theorem dX6_isTime_2 : decode cX6_isTime 2 = .ok (.sipush 1439, 3) := by decide +kernel
theorem dX6_isTime_5 : decode cX6_isTime 5 = .ok (.invokestatic 47, 3) := by decide +kernel
theorem dX6_isTime_8 : decode cX6_isTime 8 = .ok (.ifCond .eq 34, 3) := by decide +kernel
theorem dX6_isTime_11 : decode cX6_isTime 11 = .ok (.iload_n 1, 1) := by decide +kernel
theorem dX6_isTime_12 : decode cX6_isTime 12 = .ok (.iconst 0, 1) := by decide +kernel
theorem dX6_isTime_13 : decode cX6_isTime 13 = .ok (.iconst 1, 1) := by decide +kernel
theorem dX6_isTime_14 : decode cX6_isTime 14 = .ok (.invokestatic 47, 3) := by decide +kernel
theorem dX6_isTime_17 : decode cX6_isTime 17 = .ok (.ifCond .eq 25, 3) := by decide +kernel
theorem dX6_isTime_20 : decode cX6_isTime 20 = .ok (.iload_n 2, 1) := by decide +kernel
theorem dX6_isTime_21 : decode cX6_isTime 21 = .ok (.iconst 0, 1) := by decide +kernel
theorem dX6_isTime_22 : decode cX6_isTime 22 = .ok (.iconst 1, 1) := by decide +kernel
theorem dX6_isTime_23 : decode cX6_isTime 23 = .ok (.invokestatic 47, 3) := by decide +kernel
theorem dX6_isTime_26 : decode cX6_isTime 26 = .ok (.ifCond .eq 16, 3) := by decide +kernel
theorem dX6_isTime_29 : decode cX6_isTime 29 = .ok (.iload_n 3, 1) := by decide +kernel
theorem dX6_isTime_30 : decode cX6_isTime 30 = .ok (.iconst 0, 1) := by decide +kernel
theorem dX6_isTime_31 : decode cX6_isTime 31 = .ok (.iconst 1, 1) := by decide +kernel
theorem dX6_isTime_32 : decode cX6_isTime 32 = .ok (.invokestatic 47, 3) := by decide +kernel
theorem dX6_isTime_35 : decode cX6_isTime 35 = .ok (.ifCond .eq 7, 3) := by decide +kernel
theorem dX6_isTime_38 : decode cX6_isTime 38 = .ok (.iconst 1, 1) := by decide +kernel
theorem dX6_isTime_39 : decode cX6_isTime 39 = .ok (.goto 4, 3) := by decide +kernel
theorem dX6_isTime_42 : decode cX6_isTime 42 = .ok (.iconst 0, 1) := by decide +kernel
theorem dX6_isTime_43 : decode cX6_isTime 43 = .ok (.ireturn, 1) := by decide +kernel
theorem dX6_codeOf_0 : decode cX6_codeOf 0 = .ok (.bipush 8, 2) := by decide +kernel
theorem dX6_codeOf_2 : decode cX6_codeOf 2 = .ok (.iload_n 0, 1) := by decide +kernel
theorem dX6_codeOf_3 : decode cX6_codeOf 3 = .ok (.imul, 1) := by decide +kernel
theorem dX6_codeOf_4 : decode cX6_codeOf 4 = .ok (.iconst 4, 1) := by decide +kernel
theorem dX6_codeOf_5 : decode cX6_codeOf 5 = .ok (.iload_n 1, 1) := by decide +kernel
theorem dX6_codeOf_6 : decode cX6_codeOf 6 = .ok (.imul, 1) := by decide +kernel
theorem dX6_codeOf_7 : decode cX6_codeOf 7 = .ok (.iadd, 1) := by decide +kernel
theorem dX6_codeOf_8 : decode cX6_codeOf 8 = .ok (.iconst 2, 1) := by decide +kernel
theorem dX6_codeOf_9 : decode cX6_codeOf 9 = .ok (.iload_n 2, 1) := by decide +kernel
theorem dX6_codeOf_10 : decode cX6_codeOf 10 = .ok (.imul, 1) := by decide +kernel
theorem dX6_codeOf_11 : decode cX6_codeOf 11 = .ok (.iadd, 1) := by decide +kernel
theorem dX6_codeOf_12 : decode cX6_codeOf 12 = .ok (.iload_n 3, 1) := by decide +kernel
theorem dX6_codeOf_13 : decode cX6_codeOf 13 = .ok (.iadd, 1) := by decide +kernel
theorem dX6_codeOf_14 : decode cX6_codeOf 14 = .ok (.ireturn, 1) := by decide +kernel
theorem dX6_partOf_0 : decode cX6_partOf 0 = .ok (.iload_n 1, 1) := by decide +kernel
theorem dX6_partOf_1 : decode cX6_partOf 1 = .ok (.ifCond .ne 10, 3) := by decide +kernel
theorem dX6_partOf_4 : decode cX6_partOf 4 = .ok (.iload_n 0, 1) := by decide +kernel
theorem dX6_partOf_5 : decode cX6_partOf 5 = .ok (.bipush 8, 2) := by decide +kernel
theorem dX6_partOf_7 : decode cX6_partOf 7 = .ok (.idiv, 1) := by decide +kernel
theorem dX6_partOf_8 : decode cX6_partOf 8 = .ok (.goto 32, 3) := by decide +kernel
theorem dX6_partOf_11 : decode cX6_partOf 11 = .ok (.iload_n 1, 1) := by decide +kernel
theorem dX6_partOf_12 : decode cX6_partOf 12 = .ok (.iconst 1, 1) := by decide +kernel
theorem dX6_partOf_13 : decode cX6_partOf 13 = .ok (.if_icmp .ne 11, 3) := by decide +kernel
theorem dX6_partOf_16 : decode cX6_partOf 16 = .ok (.iload_n 0, 1) := by decide +kernel
theorem dX6_partOf_17 : decode cX6_partOf 17 = .ok (.iconst 4, 1) := by decide +kernel
theorem dX6_partOf_18 : decode cX6_partOf 18 = .ok (.idiv, 1) := by decide +kernel
theorem dX6_partOf_19 : decode cX6_partOf 19 = .ok (.iconst 2, 1) := by decide +kernel
theorem dX6_partOf_20 : decode cX6_partOf 20 = .ok (.irem, 1) := by decide +kernel
theorem dX6_partOf_21 : decode cX6_partOf 21 = .ok (.goto 19, 3) := by decide +kernel
theorem dX6_partOf_24 : decode cX6_partOf 24 = .ok (.iload_n 1, 1) := by decide +kernel
theorem dX6_partOf_25 : decode cX6_partOf 25 = .ok (.iconst 2, 1) := by decide +kernel
theorem dX6_partOf_26 : decode cX6_partOf 26 = .ok (.if_icmp .ne 11, 3) := by decide +kernel
theorem dX6_partOf_29 : decode cX6_partOf 29 = .ok (.iload_n 0, 1) := by decide +kernel
theorem dX6_partOf_30 : decode cX6_partOf 30 = .ok (.iconst 2, 1) := by decide +kernel
theorem dX6_partOf_31 : decode cX6_partOf 31 = .ok (.idiv, 1) := by decide +kernel
theorem dX6_partOf_32 : decode cX6_partOf 32 = .ok (.iconst 2, 1) := by decide +kernel
theorem dX6_partOf_33 : decode cX6_partOf 33 = .ok (.irem, 1) := by decide +kernel
theorem dX6_partOf_34 : decode cX6_partOf 34 = .ok (.goto 6, 3) := by decide +kernel
theorem dX6_partOf_37 : decode cX6_partOf 37 = .ok (.iload_n 0, 1) := by decide +kernel
theorem dX6_partOf_38 : decode cX6_partOf 38 = .ok (.iconst 2, 1) := by decide +kernel
theorem dX6_partOf_39 : decode cX6_partOf 39 = .ok (.irem, 1) := by decide +kernel
theorem dX6_partOf_40 : decode cX6_partOf 40 = .ok (.ireturn, 1) := by decide +kernel
theorem dX6_remember_0 : decode cX6_remember 0 = .ok (.iconst 0, 1) := by decide +kernel
theorem dX6_remember_1 : decode cX6_remember 1 = .ok (.istore_n 1, 1) := by decide +kernel
theorem dX6_remember_2 : decode cX6_remember 2 = .ok (.iload_n 1, 1) := by decide +kernel
theorem dX6_remember_3 : decode cX6_remember 3 = .ok (.bipush 126, 2) := by decide +kernel
theorem dX6_remember_5 : decode cX6_remember 5 = .ok (.if_icmp .ge 29, 3) := by decide +kernel
theorem dX6_remember_8 : decode cX6_remember 8 = .ok (.aload_n 0, 1) := by decide +kernel
theorem dX6_remember_9 : decode cX6_remember 9 = .ok (.getfield 13, 3) := by decide +kernel
theorem dX6_remember_12 : decode cX6_remember 12 = .ok (.bipush 126, 2) := by decide +kernel
theorem dX6_remember_14 : decode cX6_remember 14 = .ok (.aload_n 0, 1) := by decide +kernel
theorem dX6_remember_15 : decode cX6_remember 15 = .ok (.getfield 51, 3) := by decide +kernel
theorem dX6_remember_18 : decode cX6_remember 18 = .ok (.imul, 1) := by decide +kernel
theorem dX6_remember_19 : decode cX6_remember 19 = .ok (.iload_n 1, 1) := by decide +kernel
theorem dX6_remember_20 : decode cX6_remember 20 = .ok (.iadd, 1) := by decide +kernel
theorem dX6_remember_21 : decode cX6_remember 21 = .ok (.aload_n 0, 1) := by decide +kernel
theorem dX6_remember_22 : decode cX6_remember 22 = .ok (.getfield 7, 3) := by decide +kernel
theorem dX6_remember_25 : decode cX6_remember 25 = .ok (.iload_n 1, 1) := by decide +kernel
theorem dX6_remember_26 : decode cX6_remember 26 = .ok (.iaload, 1) := by decide +kernel
theorem dX6_remember_27 : decode cX6_remember 27 = .ok (.iastore, 1) := by decide +kernel
theorem dX6_remember_28 : decode cX6_remember 28 = .ok (.iinc 1 1, 3) := by decide +kernel
theorem dX6_remember_31 : decode cX6_remember 31 = .ok (.goto (-29), 3) := by decide +kernel
theorem dX6_remember_34 : decode cX6_remember 34 = .ok (.aload_n 0, 1) := by decide +kernel
theorem dX6_remember_35 : decode cX6_remember 35 = .ok (.aload_n 0, 1) := by decide +kernel
theorem dX6_remember_36 : decode cX6_remember 36 = .ok (.getfield 51, 3) := by decide +kernel
theorem dX6_remember_39 : decode cX6_remember 39 = .ok (.iconst 1, 1) := by decide +kernel
theorem dX6_remember_40 : decode cX6_remember 40 = .ok (.iadd, 1) := by decide +kernel
theorem dX6_remember_41 : decode cX6_remember 41 = .ok (.bipush 10, 2) := by decide +kernel
theorem dX6_remember_43 : decode cX6_remember 43 = .ok (.irem, 1) := by decide +kernel
theorem dX6_remember_44 : decode cX6_remember 44 = .ok (.putfield 51, 3) := by decide +kernel
theorem dX6_remember_47 : decode cX6_remember 47 = .ok (.aload_n 0, 1) := by decide +kernel
theorem dX6_remember_48 : decode cX6_remember 48 = .ok (.dup, 1) := by decide +kernel
theorem dX6_remember_49 : decode cX6_remember 49 = .ok (.getfield 55, 3) := by decide +kernel
theorem dX6_remember_52 : decode cX6_remember 52 = .ok (.aload_n 0, 1) := by decide +kernel
theorem dX6_remember_53 : decode cX6_remember 53 = .ok (.getfield 55, 3) := by decide +kernel
theorem dX6_remember_56 : decode cX6_remember 56 = .ok (.bipush 10, 2) := by decide +kernel
theorem dX6_remember_58 : decode cX6_remember 58 = .ok (.if_icmp .ge 7, 3) := by decide +kernel
theorem dX6_remember_61 : decode cX6_remember 61 = .ok (.iconst 1, 1) := by decide +kernel
theorem dX6_remember_62 : decode cX6_remember 62 = .ok (.goto 4, 3) := by decide +kernel
theorem dX6_remember_65 : decode cX6_remember 65 = .ok (.iconst 0, 1) := by decide +kernel
theorem dX6_remember_66 : decode cX6_remember 66 = .ok (.iadd, 1) := by decide +kernel
theorem dX6_remember_67 : decode cX6_remember 67 = .ok (.putfield 55, 3) := by decide +kernel
theorem dX6_remember_70 : decode cX6_remember 70 = .ok (.aload_n 0, 1) := by decide +kernel
theorem dX6_remember_71 : decode cX6_remember 71 = .ok (.iconst 0, 1) := by decide +kernel
theorem dX6_remember_72 : decode cX6_remember 72 = .ok (.putfield 58, 3) := by decide +kernel
theorem dX6_remember_75 : decode cX6_remember 75 = .ok (.return_, 1) := by decide +kernel
theorem dX6_comes_0 : decode cX6_comes 0 = .ok (.aload_n 0, 1) := by decide +kernel
theorem dX6_comes_1 : decode cX6_comes 1 = .ok (.getfield 7, 3) := by decide +kernel
theorem dX6_comes_4 : decode cX6_comes 4 = .ok (.bipush 6, 2) := by decide +kernel
theorem dX6_comes_6 : decode cX6_comes 6 = .ok (.aload_n 0, 1) := by decide +kernel
theorem dX6_comes_7 : decode cX6_comes 7 = .ok (.getfield 7, 3) := by decide +kernel
theorem dX6_comes_10 : decode cX6_comes 10 = .ok (.iconst 0, 1) := by decide +kernel
theorem dX6_comes_11 : decode cX6_comes 11 = .ok (.iaload, 1) := by decide +kernel
theorem dX6_comes_12 : decode cX6_comes 12 = .ok (.iadd, 1) := by decide +kernel
theorem dX6_comes_13 : decode cX6_comes 13 = .ok (.iload_n 1, 1) := by decide +kernel
theorem dX6_comes_14 : decode cX6_comes 14 = .ok (.iastore, 1) := by decide +kernel
theorem dX6_comes_15 : decode cX6_comes 15 = .ok (.aload_n 0, 1) := by decide +kernel
theorem dX6_comes_16 : decode cX6_comes 16 = .ok (.getfield 7, 3) := by decide +kernel
theorem dX6_comes_19 : decode cX6_comes 19 = .ok (.iconst 0, 1) := by decide +kernel
theorem dX6_comes_20 : decode cX6_comes 20 = .ok (.dup2, 1) := by decide +kernel
theorem dX6_comes_21 : decode cX6_comes 21 = .ok (.iaload, 1) := by decide +kernel
theorem dX6_comes_22 : decode cX6_comes 22 = .ok (.iconst 1, 1) := by decide +kernel
theorem dX6_comes_23 : decode cX6_comes 23 = .ok (.iadd, 1) := by decide +kernel
theorem dX6_comes_24 : decode cX6_comes 24 = .ok (.iastore, 1) := by decide +kernel
theorem dX6_comes_25 : decode cX6_comes 25 = .ok (.return_, 1) := by decide +kernel
theorem dX6_hears_0 : decode cX6_hears 0 = .ok (.iload_n 1, 1) := by decide +kernel
theorem dX6_hears_1 : decode cX6_hears 1 = .ok (.iconst 0, 1) := by decide +kernel
theorem dX6_hears_2 : decode cX6_hears 2 = .ok (.bipush 30, 2) := by decide +kernel
theorem dX6_hears_4 : decode cX6_hears 4 = .ok (.invokestatic 47, 3) := by decide +kernel
theorem dX6_hears_7 : decode cX6_hears 7 = .ok (.ifCond .ne 5, 3) := by decide +kernel
theorem dX6_hears_10 : decode cX6_hears 10 = .ok (.iconst (-1), 1) := by decide +kernel
theorem dX6_hears_11 : decode cX6_hears 11 = .ok (.ireturn, 1) := by decide +kernel
theorem dX6_hears_12 : decode cX6_hears 12 = .ok (.aload_n 0, 1) := by decide +kernel
theorem dX6_hears_13 : decode cX6_hears 13 = .ok (.getfield 7, 3) := by decide +kernel
theorem dX6_hears_16 : decode cX6_hears 16 = .ok (.iconst 0, 1) := by decide +kernel
theorem dX6_hears_17 : decode cX6_hears 17 = .ok (.iaload, 1) := by decide +kernel
theorem dX6_hears_18 : decode cX6_hears 18 = .ok (.bipush 120, 2) := by decide +kernel
theorem dX6_hears_20 : decode cX6_hears 20 = .ok (.if_icmp .ne 6, 3) := by decide +kernel
theorem dX6_hears_23 : decode cX6_hears 23 = .ok (.bipush (-3), 2) := by decide +kernel
theorem dX6_hears_25 : decode cX6_hears 25 = .ok (.ireturn, 1) := by decide +kernel
theorem dX6_hears_26 : decode cX6_hears 26 = .ok (.aload_n 0, 1) := by decide +kernel
theorem dX6_hears_27 : decode cX6_hears 27 = .ok (.invokevirtual 62, 3) := by decide +kernel
theorem dX6_hears_30 : decode cX6_hears 30 = .ok (.aload_n 0, 1) := by decide +kernel
theorem dX6_hears_31 : decode cX6_hears 31 = .ok (.iload_n 1, 1) := by decide +kernel
theorem dX6_hears_32 : decode cX6_hears 32 = .ok (.ifCond .ne 7, 3) := by decide +kernel
theorem dX6_hears_35 : decode cX6_hears 35 = .ok (.iconst 3, 1) := by decide +kernel
theorem dX6_hears_36 : decode cX6_hears 36 = .ok (.goto 34, 3) := by decide +kernel
theorem dX6_hears_39 : decode cX6_hears 39 = .ok (.iload_n 1, 1) := by decide +kernel
theorem dX6_hears_40 : decode cX6_hears 40 = .ok (.bipush 8, 2) := by decide +kernel
theorem dX6_hears_42 : decode cX6_hears 42 = .ok (.bipush 12, 2) := by decide +kernel
theorem dX6_hears_44 : decode cX6_hears 44 = .ok (.invokestatic 47, 3) := by decide +kernel
theorem dX6_hears_47 : decode cX6_hears 47 = .ok (.ifCond .eq 7, 3) := by decide +kernel
theorem dX6_hears_50 : decode cX6_hears 50 = .ok (.iconst 0, 1) := by decide +kernel
theorem dX6_hears_51 : decode cX6_hears 51 = .ok (.goto 19, 3) := by decide +kernel
theorem dX6_hears_54 : decode cX6_hears 54 = .ok (.iload_n 1, 1) := by decide +kernel
theorem dX6_hears_55 : decode cX6_hears 55 = .ok (.bipush 18, 2) := by decide +kernel
theorem dX6_hears_57 : decode cX6_hears 57 = .ok (.bipush 22, 2) := by decide +kernel
theorem dX6_hears_59 : decode cX6_hears 59 = .ok (.invokestatic 47, 3) := by decide +kernel
theorem dX6_hears_62 : decode cX6_hears 62 = .ok (.ifCond .eq 7, 3) := by decide +kernel
theorem dX6_hears_65 : decode cX6_hears 65 = .ok (.iconst 1, 1) := by decide +kernel
theorem dX6_hears_66 : decode cX6_hears 66 = .ok (.goto 4, 3) := by decide +kernel
theorem dX6_hears_69 : decode cX6_hears 69 = .ok (.iconst 2, 1) := by decide +kernel
theorem dX6_hears_70 : decode cX6_hears 70 = .ok (.invokevirtual 65, 3) := by decide +kernel
theorem dX6_hears_73 : decode cX6_hears 73 = .ok (.aload_n 0, 1) := by decide +kernel
theorem dX6_hears_74 : decode cX6_hears 74 = .ok (.getfield 7, 3) := by decide +kernel
theorem dX6_hears_77 : decode cX6_hears 77 = .ok (.iconst 0, 1) := by decide +kernel
theorem dX6_hears_78 : decode cX6_hears 78 = .ok (.iaload, 1) := by decide +kernel
theorem dX6_hears_79 : decode cX6_hears 79 = .ok (.ireturn, 1) := by decide +kernel
theorem dX6_frames_0 : decode cX6_frames 0 = .ok (.iload_n 1, 1) := by decide +kernel
theorem dX6_frames_1 : decode cX6_frames 1 = .ok (.iconst 0, 1) := by decide +kernel
theorem dX6_frames_2 : decode cX6_frames 2 = .ok (.ldc 69, 2) := by decide +kernel
theorem dX6_frames_4 : decode cX6_frames 4 = .ok (.invokestatic 47, 3) := by decide +kernel
theorem dX6_frames_7 : decode cX6_frames 7 = .ok (.ifCond .eq 13, 3) := by decide +kernel
theorem dX6_frames_10 : decode cX6_frames 10 = .ok (.iload_n 2, 1) := by decide +kernel
theorem dX6_frames_11 : decode cX6_frames 11 = .ok (.iconst 0, 1) := by decide +kernel
theorem dX6_frames_12 : decode cX6_frames 12 = .ok (.ldc 69, 2) := by decide +kernel
theorem dX6_frames_14 : decode cX6_frames 14 = .ok (.invokestatic 47, 3) := by decide +kernel
theorem dX6_frames_17 : decode cX6_frames 17 = .ok (.ifCond .ne 5, 3) := by decide +kernel
theorem dX6_frames_20 : decode cX6_frames 20 = .ok (.iconst (-1), 1) := by decide +kernel
theorem dX6_frames_21 : decode cX6_frames 21 = .ok (.ireturn, 1) := by decide +kernel
theorem dX6_frames_22 : decode cX6_frames 22 = .ok (.aload_n 0, 1) := by decide +kernel
theorem dX6_frames_23 : decode cX6_frames 23 = .ok (.getfield 7, 3) := by decide +kernel
theorem dX6_frames_26 : decode cX6_frames 26 = .ok (.iconst 0, 1) := by decide +kernel
theorem dX6_frames_27 : decode cX6_frames 27 = .ok (.iaload, 1) := by decide +kernel
theorem dX6_frames_28 : decode cX6_frames 28 = .ok (.bipush 19, 2) := by decide +kernel
theorem dX6_frames_30 : decode cX6_frames 30 = .ok (.iadd, 1) := by decide +kernel
theorem dX6_frames_31 : decode cX6_frames 31 = .ok (.iconst 1, 1) := by decide +kernel
theorem dX6_frames_32 : decode cX6_frames 32 = .ok (.iadd, 1) := by decide +kernel
theorem dX6_frames_33 : decode cX6_frames 33 = .ok (.bipush 120, 2) := by decide +kernel
theorem dX6_frames_35 : decode cX6_frames 35 = .ok (.if_icmp .le 6, 3) := by decide +kernel
theorem dX6_frames_38 : decode cX6_frames 38 = .ok (.bipush (-3), 2) := by decide +kernel
theorem dX6_frames_40 : decode cX6_frames 40 = .ok (.ireturn, 1) := by decide +kernel
theorem dX6_frames_41 : decode cX6_frames 41 = .ok (.aload_n 0, 1) := by decide +kernel
theorem dX6_frames_42 : decode cX6_frames 42 = .ok (.invokevirtual 62, 3) := by decide +kernel
theorem dX6_frames_45 : decode cX6_frames 45 = .ok (.iconst 0, 1) := by decide +kernel
theorem dX6_frames_46 : decode cX6_frames 46 = .ok (.istore_n 3, 1) := by decide +kernel
theorem dX6_frames_47 : decode cX6_frames 47 = .ok (.iload_n 3, 1) := by decide +kernel
theorem dX6_frames_48 : decode cX6_frames 48 = .ok (.bipush 19, 2) := by decide +kernel
theorem dX6_frames_50 : decode cX6_frames 50 = .ok (.if_icmp .ge 38, 3) := by decide +kernel
theorem dX6_frames_53 : decode cX6_frames 53 = .ok (.aload_n 0, 1) := by decide +kernel
theorem dX6_frames_54 : decode cX6_frames 54 = .ok (.iload_n 2, 1) := by decide +kernel
theorem dX6_frames_55 : decode cX6_frames 55 = .ok (.iload_n 3, 1) := by decide +kernel
theorem dX6_frames_56 : decode cX6_frames 56 = .ok (.invokestatic 32, 3) := by decide +kernel
theorem dX6_frames_59 : decode cX6_frames 59 = .ok (.ifCond .eq 7, 3) := by decide +kernel
theorem dX6_frames_62 : decode cX6_frames 62 = .ok (.iconst 2, 1) := by decide +kernel
theorem dX6_frames_63 : decode cX6_frames 63 = .ok (.goto 16, 3) := by decide +kernel
theorem dX6_frames_66 : decode cX6_frames 66 = .ok (.iload_n 1, 1) := by decide +kernel
theorem dX6_frames_67 : decode cX6_frames 67 = .ok (.iload_n 3, 1) := by decide +kernel
theorem dX6_frames_68 : decode cX6_frames 68 = .ok (.invokestatic 32, 3) := by decide +kernel
theorem dX6_frames_71 : decode cX6_frames 71 = .ok (.ifCond .eq 7, 3) := by decide +kernel
theorem dX6_frames_74 : decode cX6_frames 74 = .ok (.iconst 1, 1) := by decide +kernel
theorem dX6_frames_75 : decode cX6_frames 75 = .ok (.goto 4, 3) := by decide +kernel
theorem dX6_frames_78 : decode cX6_frames 78 = .ok (.iconst 0, 1) := by decide +kernel
theorem dX6_frames_79 : decode cX6_frames 79 = .ok (.invokevirtual 65, 3) := by decide +kernel
theorem dX6_frames_82 : decode cX6_frames 82 = .ok (.iinc 3 1, 3) := by decide +kernel
theorem dX6_frames_85 : decode cX6_frames 85 = .ok (.goto (-38), 3) := by decide +kernel
theorem dX6_frames_88 : decode cX6_frames 88 = .ok (.aload_n 0, 1) := by decide +kernel
theorem dX6_frames_89 : decode cX6_frames 89 = .ok (.iconst 3, 1) := by decide +kernel
theorem dX6_frames_90 : decode cX6_frames 90 = .ok (.invokevirtual 65, 3) := by decide +kernel
theorem dX6_frames_93 : decode cX6_frames 93 = .ok (.aload_n 0, 1) := by decide +kernel
theorem dX6_frames_94 : decode cX6_frames 94 = .ok (.getfield 7, 3) := by decide +kernel
theorem dX6_frames_97 : decode cX6_frames 97 = .ok (.iconst 0, 1) := by decide +kernel
theorem dX6_frames_98 : decode cX6_frames 98 = .ok (.iaload, 1) := by decide +kernel
theorem dX6_frames_99 : decode cX6_frames 99 = .ok (.ireturn, 1) := by decide +kernel
theorem dX6_loses_0 : decode cX6_loses 0 = .ok (.iload_n 1, 1) := by decide +kernel
theorem dX6_loses_1 : decode cX6_loses 1 = .ok (.iconst 1, 1) := by decide +kernel
theorem dX6_loses_2 : decode cX6_loses 2 = .ok (.aload_n 0, 1) := by decide +kernel
theorem dX6_loses_3 : decode cX6_loses 3 = .ok (.getfield 7, 3) := by decide +kernel
theorem dX6_loses_6 : decode cX6_loses 6 = .ok (.iconst 0, 1) := by decide +kernel
theorem dX6_loses_7 : decode cX6_loses 7 = .ok (.iaload, 1) := by decide +kernel
theorem dX6_loses_8 : decode cX6_loses 8 = .ok (.invokestatic 47, 3) := by decide +kernel
theorem dX6_loses_11 : decode cX6_loses 11 = .ok (.ifCond .ne 5, 3) := by decide +kernel
theorem dX6_loses_14 : decode cX6_loses 14 = .ok (.iconst (-1), 1) := by decide +kernel
theorem dX6_loses_15 : decode cX6_loses 15 = .ok (.ireturn, 1) := by decide +kernel
theorem dX6_loses_16 : decode cX6_loses 16 = .ok (.aload_n 0, 1) := by decide +kernel
theorem dX6_loses_17 : decode cX6_loses 17 = .ok (.invokevirtual 62, 3) := by decide +kernel
theorem dX6_loses_20 : decode cX6_loses 20 = .ok (.aload_n 0, 1) := by decide +kernel
theorem dX6_loses_21 : decode cX6_loses 21 = .ok (.getfield 7, 3) := by decide +kernel
theorem dX6_loses_24 : decode cX6_loses 24 = .ok (.iconst 0, 1) := by decide +kernel
theorem dX6_loses_25 : decode cX6_loses 25 = .ok (.dup2, 1) := by decide +kernel
theorem dX6_loses_26 : decode cX6_loses 26 = .ok (.iaload, 1) := by decide +kernel
theorem dX6_loses_27 : decode cX6_loses 27 = .ok (.iload_n 1, 1) := by decide +kernel
theorem dX6_loses_28 : decode cX6_loses 28 = .ok (.isub, 1) := by decide +kernel
theorem dX6_loses_29 : decode cX6_loses 29 = .ok (.iastore, 1) := by decide +kernel
theorem dX6_loses_30 : decode cX6_loses 30 = .ok (.iconst 0, 1) := by decide +kernel
theorem dX6_loses_31 : decode cX6_loses 31 = .ok (.istore_n 2, 1) := by decide +kernel
theorem dX6_loses_32 : decode cX6_loses 32 = .ok (.iload_n 2, 1) := by decide +kernel
theorem dX6_loses_33 : decode cX6_loses 33 = .ok (.aload_n 0, 1) := by decide +kernel
theorem dX6_loses_34 : decode cX6_loses 34 = .ok (.getfield 7, 3) := by decide +kernel
theorem dX6_loses_37 : decode cX6_loses 37 = .ok (.iconst 0, 1) := by decide +kernel
theorem dX6_loses_38 : decode cX6_loses 38 = .ok (.iaload, 1) := by decide +kernel
theorem dX6_loses_39 : decode cX6_loses 39 = .ok (.if_icmp .ge 29, 3) := by decide +kernel
theorem dX6_loses_42 : decode cX6_loses 42 = .ok (.aload_n 0, 1) := by decide +kernel
theorem dX6_loses_43 : decode cX6_loses 43 = .ok (.getfield 7, 3) := by decide +kernel
theorem dX6_loses_46 : decode cX6_loses 46 = .ok (.bipush 6, 2) := by decide +kernel
theorem dX6_loses_48 : decode cX6_loses 48 = .ok (.iload_n 2, 1) := by decide +kernel
theorem dX6_loses_49 : decode cX6_loses 49 = .ok (.iadd, 1) := by decide +kernel
theorem dX6_loses_50 : decode cX6_loses 50 = .ok (.aload_n 0, 1) := by decide +kernel
theorem dX6_loses_51 : decode cX6_loses 51 = .ok (.getfield 7, 3) := by decide +kernel
theorem dX6_loses_54 : decode cX6_loses 54 = .ok (.bipush 6, 2) := by decide +kernel
theorem dX6_loses_56 : decode cX6_loses 56 = .ok (.iload_n 2, 1) := by decide +kernel
theorem dX6_loses_57 : decode cX6_loses 57 = .ok (.iadd, 1) := by decide +kernel
theorem dX6_loses_58 : decode cX6_loses 58 = .ok (.iload_n 1, 1) := by decide +kernel
theorem dX6_loses_59 : decode cX6_loses 59 = .ok (.iadd, 1) := by decide +kernel
theorem dX6_loses_60 : decode cX6_loses 60 = .ok (.iaload, 1) := by decide +kernel
theorem dX6_loses_61 : decode cX6_loses 61 = .ok (.iastore, 1) := by decide +kernel
theorem dX6_loses_62 : decode cX6_loses 62 = .ok (.iinc 2 1, 3) := by decide +kernel
theorem dX6_loses_65 : decode cX6_loses 65 = .ok (.goto (-33), 3) := by decide +kernel
theorem dX6_loses_68 : decode cX6_loses 68 = .ok (.aload_n 0, 1) := by decide +kernel
theorem dX6_loses_69 : decode cX6_loses 69 = .ok (.getfield 7, 3) := by decide +kernel
theorem dX6_loses_72 : decode cX6_loses 72 = .ok (.iconst 0, 1) := by decide +kernel
theorem dX6_loses_73 : decode cX6_loses 73 = .ok (.iaload, 1) := by decide +kernel
theorem dX6_loses_74 : decode cX6_loses 74 = .ok (.ireturn, 1) := by decide +kernel
theorem dX6_becomes_0 : decode cX6_becomes 0 = .ok (.aload_n 0, 1) := by decide +kernel
theorem dX6_becomes_1 : decode cX6_becomes 1 = .ok (.getfield 7, 3) := by decide +kernel
theorem dX6_becomes_4 : decode cX6_becomes 4 = .ok (.iload_n 1, 1) := by decide +kernel
theorem dX6_becomes_5 : decode cX6_becomes 5 = .ok (.iaload, 1) := by decide +kernel
theorem dX6_becomes_6 : decode cX6_becomes 6 = .ok (.istore_n 3, 1) := by decide +kernel
theorem dX6_becomes_7 : decode cX6_becomes 7 = .ok (.aload_n 0, 1) := by decide +kernel
theorem dX6_becomes_8 : decode cX6_becomes 8 = .ok (.invokevirtual 62, 3) := by decide +kernel
theorem dX6_becomes_11 : decode cX6_becomes 11 = .ok (.aload_n 0, 1) := by decide +kernel
theorem dX6_becomes_12 : decode cX6_becomes 12 = .ok (.getfield 7, 3) := by decide +kernel
theorem dX6_becomes_15 : decode cX6_becomes 15 = .ok (.iload_n 1, 1) := by decide +kernel
theorem dX6_becomes_16 : decode cX6_becomes 16 = .ok (.iload_n 2, 1) := by decide +kernel
theorem dX6_becomes_17 : decode cX6_becomes 17 = .ok (.iastore, 1) := by decide +kernel
theorem dX6_becomes_18 : decode cX6_becomes 18 = .ok (.iload_n 3, 1) := by decide +kernel
theorem dX6_becomes_19 : decode cX6_becomes 19 = .ok (.ireturn, 1) := by decide +kernel
theorem dX6_needs_0 : decode cX6_needs 0 = .ok (.iload_n 1, 1) := by decide +kernel
theorem dX6_needs_1 : decode cX6_needs 1 = .ok (.iconst 1, 1) := by decide +kernel
theorem dX6_needs_2 : decode cX6_needs 2 = .ok (.bipush 9, 2) := by decide +kernel
theorem dX6_needs_4 : decode cX6_needs 4 = .ok (.invokestatic 47, 3) := by decide +kernel
theorem dX6_needs_7 : decode cX6_needs 7 = .ok (.ifCond .eq 12, 3) := by decide +kernel
theorem dX6_needs_10 : decode cX6_needs 10 = .ok (.aload_n 0, 1) := by decide +kernel
theorem dX6_needs_11 : decode cX6_needs 11 = .ok (.iconst 1, 1) := by decide +kernel
theorem dX6_needs_12 : decode cX6_needs 12 = .ok (.iload_n 1, 1) := by decide +kernel
theorem dX6_needs_13 : decode cX6_needs 13 = .ok (.invokevirtual 70, 3) := by decide +kernel
theorem dX6_needs_16 : decode cX6_needs 16 = .ok (.goto 4, 3) := by decide +kernel
theorem dX6_needs_19 : decode cX6_needs 19 = .ok (.iconst (-1), 1) := by decide +kernel
theorem dX6_needs_20 : decode cX6_needs 20 = .ok (.ireturn, 1) := by decide +kernel
theorem dX6_drifts_0 : decode cX6_drifts 0 = .ok (.iload_n 1, 1) := by decide +kernel
theorem dX6_drifts_1 : decode cX6_drifts 1 = .ok (.iconst 0, 1) := by decide +kernel
theorem dX6_drifts_2 : decode cX6_drifts 2 = .ok (.bipush 50, 2) := by decide +kernel
theorem dX6_drifts_4 : decode cX6_drifts 4 = .ok (.invokestatic 47, 3) := by decide +kernel
theorem dX6_drifts_7 : decode cX6_drifts 7 = .ok (.ifCond .eq 12, 3) := by decide +kernel
theorem dX6_drifts_10 : decode cX6_drifts 10 = .ok (.aload_n 0, 1) := by decide +kernel
theorem dX6_drifts_11 : decode cX6_drifts 11 = .ok (.iconst 2, 1) := by decide +kernel
theorem dX6_drifts_12 : decode cX6_drifts 12 = .ok (.iload_n 1, 1) := by decide +kernel
theorem dX6_drifts_13 : decode cX6_drifts 13 = .ok (.invokevirtual 70, 3) := by decide +kernel
theorem dX6_drifts_16 : decode cX6_drifts 16 = .ok (.goto 4, 3) := by decide +kernel
theorem dX6_drifts_19 : decode cX6_drifts 19 = .ok (.iconst (-1), 1) := by decide +kernel
theorem dX6_drifts_20 : decode cX6_drifts 20 = .ok (.ireturn, 1) := by decide +kernel
theorem dX6_symbolAt_0 : decode cX6_symbolAt 0 = .ok (.aload_n 0, 1) := by decide +kernel
theorem dX6_symbolAt_1 : decode cX6_symbolAt 1 = .ok (.getfield 7, 3) := by decide +kernel
theorem dX6_symbolAt_4 : decode cX6_symbolAt 4 = .ok (.bipush 6, 2) := by decide +kernel
theorem dX6_symbolAt_6 : decode cX6_symbolAt 6 = .ok (.iload_n 1, 1) := by decide +kernel
theorem dX6_symbolAt_7 : decode cX6_symbolAt 7 = .ok (.iadd, 1) := by decide +kernel
theorem dX6_symbolAt_8 : decode cX6_symbolAt 8 = .ok (.iaload, 1) := by decide +kernel
theorem dX6_symbolAt_9 : decode cX6_symbolAt 9 = .ok (.ireturn, 1) := by decide +kernel
theorem dX6_layPhase_0 : decode cX6_layPhase 0 = .ok (.iconst (-1), 1) := by decide +kernel
theorem dX6_layPhase_1 : decode cX6_layPhase 1 = .ok (.istore_n 1, 1) := by decide +kernel
theorem dX6_layPhase_2 : decode cX6_layPhase 2 = .ok (.iconst 0, 1) := by decide +kernel
theorem dX6_layPhase_3 : decode cX6_layPhase 3 = .ok (.istore_n 2, 1) := by decide +kernel
theorem dX6_layPhase_4 : decode cX6_layPhase 4 = .ok (.iload_n 2, 1) := by decide +kernel
theorem dX6_layPhase_5 : decode cX6_layPhase 5 = .ok (.bipush 20, 2) := by decide +kernel
theorem dX6_layPhase_7 : decode cX6_layPhase 7 = .ok (.if_icmp .ge 77, 3) := by decide +kernel
theorem dX6_layPhase_10 : decode cX6_layPhase 10 = .ok (.iconst 0, 1) := by decide +kernel
theorem dX6_layPhase_11 : decode cX6_layPhase 11 = .ok (.istore_n 3, 1) := by decide +kernel
theorem dX6_layPhase_12 : decode cX6_layPhase 12 = .ok (.iload_n 2, 1) := by decide +kernel
theorem dX6_layPhase_13 : decode cX6_layPhase 13 = .ok (.istore 4, 2) := by decide +kernel
theorem dX6_layPhase_15 : decode cX6_layPhase 15 = .ok (.iload 4, 2) := by decide +kernel
theorem dX6_layPhase_17 : decode cX6_layPhase 17 = .ok (.aload_n 0, 1) := by decide +kernel
theorem dX6_layPhase_18 : decode cX6_layPhase 18 = .ok (.getfield 7, 3) := by decide +kernel
theorem dX6_layPhase_21 : decode cX6_layPhase 21 = .ok (.iconst 0, 1) := by decide +kernel
theorem dX6_layPhase_22 : decode cX6_layPhase 22 = .ok (.iaload, 1) := by decide +kernel
theorem dX6_layPhase_23 : decode cX6_layPhase 23 = .ok (.if_icmp .ge 27, 3) := by decide +kernel
theorem dX6_layPhase_26 : decode cX6_layPhase 26 = .ok (.iload_n 3, 1) := by decide +kernel
theorem dX6_layPhase_27 : decode cX6_layPhase 27 = .ok (.aload_n 0, 1) := by decide +kernel
theorem dX6_layPhase_28 : decode cX6_layPhase 28 = .ok (.iload 4, 2) := by decide +kernel
theorem dX6_layPhase_30 : decode cX6_layPhase 30 = .ok (.invokevirtual 73, 3) := by decide +kernel
theorem dX6_layPhase_33 : decode cX6_layPhase 33 = .ok (.iconst 3, 1) := by decide +kernel
theorem dX6_layPhase_34 : decode cX6_layPhase 34 = .ok (.if_icmp .ne 7, 3) := by decide +kernel
theorem dX6_layPhase_37 : decode cX6_layPhase 37 = .ok (.iconst 1, 1) := by decide +kernel
theorem dX6_layPhase_38 : decode cX6_layPhase 38 = .ok (.goto 4, 3) := by decide +kernel
theorem dX6_layPhase_41 : decode cX6_layPhase 41 = .ok (.iconst 0, 1) := by decide +kernel
theorem dX6_layPhase_42 : decode cX6_layPhase 42 = .ok (.iadd, 1) := by decide +kernel
theorem dX6_layPhase_43 : decode cX6_layPhase 43 = .ok (.istore_n 3, 1) := by decide +kernel
theorem dX6_layPhase_44 : decode cX6_layPhase 44 = .ok (.iinc 4 20, 3) := by decide +kernel
theorem dX6_layPhase_47 : decode cX6_layPhase 47 = .ok (.goto (-32), 3) := by decide +kernel
theorem dX6_layPhase_50 : decode cX6_layPhase 50 = .ok (.aload_n 0, 1) := by decide +kernel
theorem dX6_layPhase_51 : decode cX6_layPhase 51 = .ok (.iload_n 3, 1) := by decide +kernel
theorem dX6_layPhase_52 : decode cX6_layPhase 52 = .ok (.iload_n 1, 1) := by decide +kernel
theorem dX6_layPhase_53 : decode cX6_layPhase 53 = .ok (.if_icmp .le 7, 3) := by decide +kernel
theorem dX6_layPhase_56 : decode cX6_layPhase 56 = .ok (.iload_n 2, 1) := by decide +kernel
theorem dX6_layPhase_57 : decode cX6_layPhase 57 = .ok (.goto 7, 3) := by decide +kernel
theorem dX6_layPhase_60 : decode cX6_layPhase 60 = .ok (.aload_n 0, 1) := by decide +kernel
theorem dX6_layPhase_61 : decode cX6_layPhase 61 = .ok (.getfield 76, 3) := by decide +kernel
theorem dX6_layPhase_64 : decode cX6_layPhase 64 = .ok (.putfield 76, 3) := by decide +kernel
theorem dX6_layPhase_67 : decode cX6_layPhase 67 = .ok (.iload_n 3, 1) := by decide +kernel
theorem dX6_layPhase_68 : decode cX6_layPhase 68 = .ok (.iload_n 1, 1) := by decide +kernel
theorem dX6_layPhase_69 : decode cX6_layPhase 69 = .ok (.if_icmp .le 7, 3) := by decide +kernel
theorem dX6_layPhase_72 : decode cX6_layPhase 72 = .ok (.iload_n 3, 1) := by decide +kernel
theorem dX6_layPhase_73 : decode cX6_layPhase 73 = .ok (.goto 4, 3) := by decide +kernel
theorem dX6_layPhase_76 : decode cX6_layPhase 76 = .ok (.iload_n 1, 1) := by decide +kernel
theorem dX6_layPhase_77 : decode cX6_layPhase 77 = .ok (.istore_n 1, 1) := by decide +kernel
theorem dX6_layPhase_78 : decode cX6_layPhase 78 = .ok (.iinc 2 1, 3) := by decide +kernel
theorem dX6_layPhase_81 : decode cX6_layPhase 81 = .ok (.goto (-77), 3) := by decide +kernel
theorem dX6_layPhase_84 : decode cX6_layPhase 84 = .ok (.return_, 1) := by decide +kernel
theorem dX6_firstOf_0 : decode cX6_firstOf 0 = .ok (.aload_n 0, 1) := by decide +kernel
theorem dX6_firstOf_1 : decode cX6_firstOf 1 = .ok (.getfield 76, 3) := by decide +kernel
theorem dX6_firstOf_4 : decode cX6_firstOf 4 = .ok (.iconst 1, 1) := by decide +kernel
theorem dX6_firstOf_5 : decode cX6_firstOf 5 = .ok (.iadd, 1) := by decide +kernel
theorem dX6_firstOf_6 : decode cX6_firstOf 6 = .ok (.bipush 20, 2) := by decide +kernel
theorem dX6_firstOf_8 : decode cX6_firstOf 8 = .ok (.irem, 1) := by decide +kernel
theorem dX6_firstOf_9 : decode cX6_firstOf 9 = .ok (.bipush 20, 2) := by decide +kernel
theorem dX6_firstOf_11 : decode cX6_firstOf 11 = .ok (.iload_n 1, 1) := by decide +kernel
theorem dX6_firstOf_12 : decode cX6_firstOf 12 = .ok (.imul, 1) := by decide +kernel
theorem dX6_firstOf_13 : decode cX6_firstOf 13 = .ok (.iadd, 1) := by decide +kernel
theorem dX6_firstOf_14 : decode cX6_firstOf 14 = .ok (.ireturn, 1) := by decide +kernel
theorem dX6_layFrames_0 : decode cX6_layFrames 0 = .ok (.aload_n 0, 1) := by decide +kernel
theorem dX6_layFrames_1 : decode cX6_layFrames 1 = .ok (.iconst 0, 1) := by decide +kernel
theorem dX6_layFrames_2 : decode cX6_layFrames 2 = .ok (.putfield 79, 3) := by decide +kernel
theorem dX6_layFrames_5 : decode cX6_layFrames 5 = .ok (.aload_n 0, 1) := by decide +kernel
theorem dX6_layFrames_6 : decode cX6_layFrames 6 = .ok (.aload_n 0, 1) := by decide +kernel
theorem dX6_layFrames_7 : decode cX6_layFrames 7 = .ok (.getfield 79, 3) := by decide +kernel
theorem dX6_layFrames_10 : decode cX6_layFrames 10 = .ok (.invokevirtual 82, 3) := by decide +kernel
theorem dX6_layFrames_13 : decode cX6_layFrames 13 = .ok (.bipush 19, 2) := by decide +kernel
theorem dX6_layFrames_15 : decode cX6_layFrames 15 = .ok (.iadd, 1) := by decide +kernel
theorem dX6_layFrames_16 : decode cX6_layFrames 16 = .ok (.aload_n 0, 1) := by decide +kernel
theorem dX6_layFrames_17 : decode cX6_layFrames 17 = .ok (.getfield 7, 3) := by decide +kernel
theorem dX6_layFrames_20 : decode cX6_layFrames 20 = .ok (.iconst 0, 1) := by decide +kernel
theorem dX6_layFrames_21 : decode cX6_layFrames 21 = .ok (.iaload, 1) := by decide +kernel
theorem dX6_layFrames_22 : decode cX6_layFrames 22 = .ok (.if_icmp .gt 113, 3) := by decide +kernel
theorem dX6_layFrames_25 : decode cX6_layFrames 25 = .ok (.aload_n 0, 1) := by decide +kernel
theorem dX6_layFrames_26 : decode cX6_layFrames 26 = .ok (.getfield 23, 3) := by decide +kernel
theorem dX6_layFrames_29 : decode cX6_layFrames 29 = .ok (.aload_n 0, 1) := by decide +kernel
theorem dX6_layFrames_30 : decode cX6_layFrames 30 = .ok (.getfield 79, 3) := by decide +kernel
theorem dX6_layFrames_33 : decode cX6_layFrames 33 = .ok (.iconst 0, 1) := by decide +kernel
theorem dX6_layFrames_34 : decode cX6_layFrames 34 = .ok (.iastore, 1) := by decide +kernel
theorem dX6_layFrames_35 : decode cX6_layFrames 35 = .ok (.aload_n 0, 1) := by decide +kernel
theorem dX6_layFrames_36 : decode cX6_layFrames 36 = .ok (.getfield 26, 3) := by decide +kernel
theorem dX6_layFrames_39 : decode cX6_layFrames 39 = .ok (.aload_n 0, 1) := by decide +kernel
theorem dX6_layFrames_40 : decode cX6_layFrames 40 = .ok (.getfield 79, 3) := by decide +kernel
theorem dX6_layFrames_43 : decode cX6_layFrames 43 = .ok (.iconst 0, 1) := by decide +kernel
theorem dX6_layFrames_44 : decode cX6_layFrames 44 = .ok (.iastore, 1) := by decide +kernel
theorem dX6_layFrames_45 : decode cX6_layFrames 45 = .ok (.iconst 0, 1) := by decide +kernel
theorem dX6_layFrames_46 : decode cX6_layFrames 46 = .ok (.istore_n 1, 1) := by decide +kernel
theorem dX6_layFrames_47 : decode cX6_layFrames 47 = .ok (.iload_n 1, 1) := by decide +kernel
theorem dX6_layFrames_48 : decode cX6_layFrames 48 = .ok (.bipush 19, 2) := by decide +kernel
theorem dX6_layFrames_50 : decode cX6_layFrames 50 = .ok (.if_icmp .ge 72, 3) := by decide +kernel
theorem dX6_layFrames_53 : decode cX6_layFrames 53 = .ok (.aload_n 0, 1) := by decide +kernel
theorem dX6_layFrames_54 : decode cX6_layFrames 54 = .ok (.aload_n 0, 1) := by decide +kernel
theorem dX6_layFrames_55 : decode cX6_layFrames 55 = .ok (.aload_n 0, 1) := by decide +kernel
theorem dX6_layFrames_56 : decode cX6_layFrames 56 = .ok (.getfield 79, 3) := by decide +kernel
theorem dX6_layFrames_59 : decode cX6_layFrames 59 = .ok (.invokevirtual 82, 3) := by decide +kernel
theorem dX6_layFrames_62 : decode cX6_layFrames 62 = .ok (.iload_n 1, 1) := by decide +kernel
theorem dX6_layFrames_63 : decode cX6_layFrames 63 = .ok (.iadd, 1) := by decide +kernel
theorem dX6_layFrames_64 : decode cX6_layFrames 64 = .ok (.invokevirtual 73, 3) := by decide +kernel
theorem dX6_layFrames_67 : decode cX6_layFrames 67 = .ok (.istore_n 2, 1) := by decide +kernel
theorem dX6_layFrames_68 : decode cX6_layFrames 68 = .ok (.aload_n 0, 1) := by decide +kernel
theorem dX6_layFrames_69 : decode cX6_layFrames 69 = .ok (.getfield 23, 3) := by decide +kernel
theorem dX6_layFrames_72 : decode cX6_layFrames 72 = .ok (.aload_n 0, 1) := by decide +kernel
theorem dX6_layFrames_73 : decode cX6_layFrames 73 = .ok (.getfield 79, 3) := by decide +kernel
theorem dX6_layFrames_76 : decode cX6_layFrames 76 = .ok (.dup2, 1) := by decide +kernel
theorem dX6_layFrames_77 : decode cX6_layFrames 77 = .ok (.iaload, 1) := by decide +kernel
theorem dX6_layFrames_78 : decode cX6_layFrames 78 = .ok (.iload_n 2, 1) := by decide +kernel
theorem dX6_layFrames_79 : decode cX6_layFrames 79 = .ok (.iconst 2, 1) := by decide +kernel
theorem dX6_layFrames_80 : decode cX6_layFrames 80 = .ok (.if_icmp .ge 9, 3) := by decide +kernel
theorem dX6_layFrames_83 : decode cX6_layFrames 83 = .ok (.iconst 1, 1) := by decide +kernel
theorem dX6_layFrames_84 : decode cX6_layFrames 84 = .ok (.iload_n 1, 1) := by decide +kernel
theorem dX6_layFrames_85 : decode cX6_layFrames 85 = .ok (.ishl, 1) := by decide +kernel
theorem dX6_layFrames_86 : decode cX6_layFrames 86 = .ok (.goto 4, 3) := by decide +kernel
theorem dX6_layFrames_89 : decode cX6_layFrames 89 = .ok (.iconst 0, 1) := by decide +kernel
theorem dX6_layFrames_90 : decode cX6_layFrames 90 = .ok (.ior, 1) := by decide +kernel
theorem dX6_layFrames_91 : decode cX6_layFrames 91 = .ok (.iastore, 1) := by decide +kernel
theorem dX6_layFrames_92 : decode cX6_layFrames 92 = .ok (.aload_n 0, 1) := by decide +kernel
theorem dX6_layFrames_93 : decode cX6_layFrames 93 = .ok (.getfield 26, 3) := by decide +kernel
theorem dX6_layFrames_96 : decode cX6_layFrames 96 = .ok (.aload_n 0, 1) := by decide +kernel
theorem dX6_layFrames_97 : decode cX6_layFrames 97 = .ok (.getfield 79, 3) := by decide +kernel
theorem dX6_layFrames_100 : decode cX6_layFrames 100 = .ok (.dup2, 1) := by decide +kernel
theorem dX6_layFrames_101 : decode cX6_layFrames 101 = .ok (.iaload, 1) := by decide +kernel
theorem dX6_layFrames_102 : decode cX6_layFrames 102 = .ok (.iload_n 2, 1) := by decide +kernel
theorem dX6_layFrames_103 : decode cX6_layFrames 103 = .ok (.iconst 1, 1) := by decide +kernel
theorem dX6_layFrames_104 : decode cX6_layFrames 104 = .ok (.if_icmp .ne 9, 3) := by decide +kernel
theorem dX6_layFrames_107 : decode cX6_layFrames 107 = .ok (.iconst 1, 1) := by decide +kernel
theorem dX6_layFrames_108 : decode cX6_layFrames 108 = .ok (.iload_n 1, 1) := by decide +kernel
theorem dX6_layFrames_109 : decode cX6_layFrames 109 = .ok (.ishl, 1) := by decide +kernel
theorem dX6_layFrames_110 : decode cX6_layFrames 110 = .ok (.goto 4, 3) := by decide +kernel
theorem dX6_layFrames_113 : decode cX6_layFrames 113 = .ok (.iconst 0, 1) := by decide +kernel
theorem dX6_layFrames_114 : decode cX6_layFrames 114 = .ok (.ior, 1) := by decide +kernel
theorem dX6_layFrames_115 : decode cX6_layFrames 115 = .ok (.iastore, 1) := by decide +kernel
theorem dX6_layFrames_116 : decode cX6_layFrames 116 = .ok (.iinc 1 1, 3) := by decide +kernel
theorem dX6_layFrames_119 : decode cX6_layFrames 119 = .ok (.goto (-72), 3) := by decide +kernel
theorem dX6_layFrames_122 : decode cX6_layFrames 122 = .ok (.aload_n 0, 1) := by decide +kernel
theorem dX6_layFrames_123 : decode cX6_layFrames 123 = .ok (.dup, 1) := by decide +kernel
theorem dX6_layFrames_124 : decode cX6_layFrames 124 = .ok (.getfield 79, 3) := by decide +kernel
theorem dX6_layFrames_127 : decode cX6_layFrames 127 = .ok (.iconst 1, 1) := by decide +kernel
theorem dX6_layFrames_128 : decode cX6_layFrames 128 = .ok (.iadd, 1) := by decide +kernel
theorem dX6_layFrames_129 : decode cX6_layFrames 129 = .ok (.putfield 79, 3) := by decide +kernel
theorem dX6_layFrames_132 : decode cX6_layFrames 132 = .ok (.goto (-127), 3) := by decide +kernel
theorem dX6_layFrames_135 : decode cX6_layFrames 135 = .ok (.return_, 1) := by decide +kernel
theorem dX6_wrongOf_0 : decode cX6_wrongOf 0 = .ok (.iload_n 1, 1) := by decide +kernel
theorem dX6_wrongOf_1 : decode cX6_wrongOf 1 = .ok (.invokestatic 85, 3) := by decide +kernel
theorem dX6_wrongOf_4 : decode cX6_wrongOf 4 = .ok (.aload_n 0, 1) := by decide +kernel
theorem dX6_wrongOf_5 : decode cX6_wrongOf 5 = .ok (.getfield 26, 3) := by decide +kernel
theorem dX6_wrongOf_8 : decode cX6_wrongOf 8 = .ok (.iload_n 2, 1) := by decide +kernel
theorem dX6_wrongOf_9 : decode cX6_wrongOf 9 = .ok (.iaload, 1) := by decide +kernel
theorem dX6_wrongOf_10 : decode cX6_wrongOf 10 = .ok (.ixor, 1) := by decide +kernel
theorem dX6_wrongOf_11 : decode cX6_wrongOf 11 = .ok (.aload_n 0, 1) := by decide +kernel
theorem dX6_wrongOf_12 : decode cX6_wrongOf 12 = .ok (.getfield 23, 3) := by decide +kernel
theorem dX6_wrongOf_15 : decode cX6_wrongOf 15 = .ok (.iload_n 2, 1) := by decide +kernel
theorem dX6_wrongOf_16 : decode cX6_wrongOf 16 = .ok (.iaload, 1) := by decide +kernel
theorem dX6_wrongOf_17 : decode cX6_wrongOf 17 = .ok (.iand, 1) := by decide +kernel
theorem dX6_wrongOf_18 : decode cX6_wrongOf 18 = .ok (.ireturn, 1) := by decide +kernel
theorem dX6_missesOf_0 : decode cX6_missesOf 0 = .ok (.iconst 0, 1) := by decide +kernel
theorem dX6_missesOf_1 : decode cX6_missesOf 1 = .ok (.istore_n 2, 1) := by decide +kernel
theorem dX6_missesOf_2 : decode cX6_missesOf 2 = .ok (.iload_n 1, 1) := by decide +kernel
theorem dX6_missesOf_3 : decode cX6_missesOf 3 = .ok (.istore_n 3, 1) := by decide +kernel
theorem dX6_missesOf_4 : decode cX6_missesOf 4 = .ok (.iconst 0, 1) := by decide +kernel
theorem dX6_missesOf_5 : decode cX6_missesOf 5 = .ok (.istore 4, 2) := by decide +kernel
theorem dX6_missesOf_7 : decode cX6_missesOf 7 = .ok (.iload 4, 2) := by decide +kernel
theorem dX6_missesOf_9 : decode cX6_missesOf 9 = .ok (.aload_n 0, 1) := by decide +kernel
theorem dX6_missesOf_10 : decode cX6_missesOf 10 = .ok (.getfield 79, 3) := by decide +kernel
theorem dX6_missesOf_13 : decode cX6_missesOf 13 = .ok (.if_icmp .ge 27, 3) := by decide +kernel
theorem dX6_missesOf_16 : decode cX6_missesOf 16 = .ok (.iload_n 2, 1) := by decide +kernel
theorem dX6_missesOf_17 : decode cX6_missesOf 17 = .ok (.aload_n 0, 1) := by decide +kernel
theorem dX6_missesOf_18 : decode cX6_missesOf 18 = .ok (.iload_n 3, 1) := by decide +kernel
theorem dX6_missesOf_19 : decode cX6_missesOf 19 = .ok (.iload 4, 2) := by decide +kernel
theorem dX6_missesOf_21 : decode cX6_missesOf 21 = .ok (.invokevirtual 88, 3) := by decide +kernel
theorem dX6_missesOf_24 : decode cX6_missesOf 24 = .ok (.invokestatic 40, 3) := by decide +kernel
theorem dX6_missesOf_27 : decode cX6_missesOf 27 = .ok (.iadd, 1) := by decide +kernel
theorem dX6_missesOf_28 : decode cX6_missesOf 28 = .ok (.istore_n 2, 1) := by decide +kernel
theorem dX6_missesOf_29 : decode cX6_missesOf 29 = .ok (.iload_n 3, 1) := by decide +kernel
theorem dX6_missesOf_30 : decode cX6_missesOf 30 = .ok (.invokestatic 44, 3) := by decide +kernel
theorem dX6_missesOf_33 : decode cX6_missesOf 33 = .ok (.istore_n 3, 1) := by decide +kernel
theorem dX6_missesOf_34 : decode cX6_missesOf 34 = .ok (.iinc 4 1, 3) := by decide +kernel
theorem dX6_missesOf_37 : decode cX6_missesOf 37 = .ok (.goto (-30), 3) := by decide +kernel
theorem dX6_missesOf_40 : decode cX6_missesOf 40 = .ok (.iload_n 2, 1) := by decide +kernel
theorem dX6_missesOf_41 : decode cX6_missesOf 41 = .ok (.ireturn, 1) := by decide +kernel
theorem dX6_tells_0 : decode cX6_tells 0 = .ok (.aload_n 0, 1) := by decide +kernel
theorem dX6_tells_1 : decode cX6_tells 1 = .ok (.getfield 58, 3) := by decide +kernel
theorem dX6_tells_4 : decode cX6_tells 4 = .ok (.ifCond .eq 4, 3) := by decide +kernel
theorem dX6_tells_7 : decode cX6_tells 7 = .ok (.return_, 1) := by decide +kernel
theorem dX6_tells_8 : decode cX6_tells 8 = .ok (.aload_n 0, 1) := by decide +kernel
theorem dX6_tells_9 : decode cX6_tells 9 = .ok (.iconst 1, 1) := by decide +kernel
theorem dX6_tells_10 : decode cX6_tells 10 = .ok (.putfield 58, 3) := by decide +kernel
theorem dX6_tells_13 : decode cX6_tells 13 = .ok (.aload_n 0, 1) := by decide +kernel
theorem dX6_tells_14 : decode cX6_tells 14 = .ok (.invokevirtual 91, 3) := by decide +kernel
theorem dX6_tells_17 : decode cX6_tells 17 = .ok (.aload_n 0, 1) := by decide +kernel
theorem dX6_tells_18 : decode cX6_tells 18 = .ok (.invokevirtual 94, 3) := by decide +kernel
theorem dX6_tells_21 : decode cX6_tells 21 = .ok (.aload_n 0, 1) := by decide +kernel
theorem dX6_tells_22 : decode cX6_tells 22 = .ok (.bipush (-9), 2) := by decide +kernel
theorem dX6_tells_24 : decode cX6_tells 24 = .ok (.putfield 97, 3) := by decide +kernel
theorem dX6_tells_27 : decode cX6_tells 27 = .ok (.bipush (-9), 2) := by decide +kernel
theorem dX6_tells_29 : decode cX6_tells 29 = .ok (.istore_n 1, 1) := by decide +kernel
theorem dX6_tells_30 : decode cX6_tells 30 = .ok (.iconst 0, 1) := by decide +kernel
theorem dX6_tells_31 : decode cX6_tells 31 = .ok (.istore_n 2, 1) := by decide +kernel
theorem dX6_tells_32 : decode cX6_tells 32 = .ok (.iload_n 2, 1) := by decide +kernel
theorem dX6_tells_33 : decode cX6_tells 33 = .ok (.sipush 11520, 3) := by decide +kernel
theorem dX6_tells_36 : decode cX6_tells 36 = .ok (.if_icmp .ge 83, 3) := by decide +kernel
theorem dX6_tells_39 : decode cX6_tells 39 = .ok (.aload_n 0, 1) := by decide +kernel
theorem dX6_tells_40 : decode cX6_tells 40 = .ok (.getfield 29, 3) := by decide +kernel
theorem dX6_tells_43 : decode cX6_tells 43 = .ok (.iload_n 2, 1) := by decide +kernel
theorem dX6_tells_44 : decode cX6_tells 44 = .ok (.aload_n 0, 1) := by decide +kernel
theorem dX6_tells_45 : decode cX6_tells 45 = .ok (.iload_n 2, 1) := by decide +kernel
theorem dX6_tells_46 : decode cX6_tells 46 = .ok (.invokevirtual 100, 3) := by decide +kernel
theorem dX6_tells_49 : decode cX6_tells 49 = .ok (.iastore, 1) := by decide +kernel
theorem dX6_tells_50 : decode cX6_tells 50 = .ok (.aload_n 0, 1) := by decide +kernel
theorem dX6_tells_51 : decode cX6_tells 51 = .ok (.getfield 97, 3) := by decide +kernel
theorem dX6_tells_54 : decode cX6_tells 54 = .ok (.bipush (-9), 2) := by decide +kernel
theorem dX6_tells_56 : decode cX6_tells 56 = .ok (.if_icmp .eq 21, 3) := by decide +kernel
theorem dX6_tells_59 : decode cX6_tells 59 = .ok (.aload_n 0, 1) := by decide +kernel
theorem dX6_tells_60 : decode cX6_tells 60 = .ok (.getfield 29, 3) := by decide +kernel
theorem dX6_tells_63 : decode cX6_tells 63 = .ok (.iload_n 2, 1) := by decide +kernel
theorem dX6_tells_64 : decode cX6_tells 64 = .ok (.iaload, 1) := by decide +kernel
theorem dX6_tells_65 : decode cX6_tells 65 = .ok (.aload_n 0, 1) := by decide +kernel
theorem dX6_tells_66 : decode cX6_tells 66 = .ok (.getfield 29, 3) := by decide +kernel
theorem dX6_tells_69 : decode cX6_tells 69 = .ok (.aload_n 0, 1) := by decide +kernel
theorem dX6_tells_70 : decode cX6_tells 70 = .ok (.getfield 97, 3) := by decide +kernel
theorem dX6_tells_73 : decode cX6_tells 73 = .ok (.iaload, 1) := by decide +kernel
theorem dX6_tells_74 : decode cX6_tells 74 = .ok (.if_icmp .ge 16, 3) := by decide +kernel
theorem dX6_tells_77 : decode cX6_tells 77 = .ok (.aload_n 0, 1) := by decide +kernel
theorem dX6_tells_78 : decode cX6_tells 78 = .ok (.getfield 97, 3) := by decide +kernel
theorem dX6_tells_81 : decode cX6_tells 81 = .ok (.istore_n 1, 1) := by decide +kernel
theorem dX6_tells_82 : decode cX6_tells 82 = .ok (.aload_n 0, 1) := by decide +kernel
theorem dX6_tells_83 : decode cX6_tells 83 = .ok (.iload_n 2, 1) := by decide +kernel
theorem dX6_tells_84 : decode cX6_tells 84 = .ok (.putfield 97, 3) := by decide +kernel
theorem dX6_tells_87 : decode cX6_tells 87 = .ok (.goto 26, 3) := by decide +kernel
theorem dX6_tells_90 : decode cX6_tells 90 = .ok (.iload_n 1, 1) := by decide +kernel
theorem dX6_tells_91 : decode cX6_tells 91 = .ok (.bipush (-9), 2) := by decide +kernel
theorem dX6_tells_93 : decode cX6_tells 93 = .ok (.if_icmp .eq 18, 3) := by decide +kernel
theorem dX6_tells_96 : decode cX6_tells 96 = .ok (.aload_n 0, 1) := by decide +kernel
theorem dX6_tells_97 : decode cX6_tells 97 = .ok (.getfield 29, 3) := by decide +kernel
theorem dX6_tells_100 : decode cX6_tells 100 = .ok (.iload_n 2, 1) := by decide +kernel
theorem dX6_tells_101 : decode cX6_tells 101 = .ok (.iaload, 1) := by decide +kernel
theorem dX6_tells_102 : decode cX6_tells 102 = .ok (.aload_n 0, 1) := by decide +kernel
theorem dX6_tells_103 : decode cX6_tells 103 = .ok (.getfield 29, 3) := by decide +kernel
theorem dX6_tells_106 : decode cX6_tells 106 = .ok (.iload_n 1, 1) := by decide +kernel
theorem dX6_tells_107 : decode cX6_tells 107 = .ok (.iaload, 1) := by decide +kernel
theorem dX6_tells_108 : decode cX6_tells 108 = .ok (.if_icmp .ge 5, 3) := by decide +kernel
theorem dX6_tells_111 : decode cX6_tells 111 = .ok (.iload_n 2, 1) := by decide +kernel
theorem dX6_tells_112 : decode cX6_tells 112 = .ok (.istore_n 1, 1) := by decide +kernel
theorem dX6_tells_113 : decode cX6_tells 113 = .ok (.iinc 2 1, 3) := by decide +kernel
theorem dX6_tells_116 : decode cX6_tells 116 = .ok (.goto (-84), 3) := by decide +kernel
theorem dX6_tells_119 : decode cX6_tells 119 = .ok (.aload_n 0, 1) := by decide +kernel
theorem dX6_tells_120 : decode cX6_tells 120 = .ok (.aload_n 0, 1) := by decide +kernel
theorem dX6_tells_121 : decode cX6_tells 121 = .ok (.getfield 29, 3) := by decide +kernel
theorem dX6_tells_124 : decode cX6_tells 124 = .ok (.iload_n 1, 1) := by decide +kernel
theorem dX6_tells_125 : decode cX6_tells 125 = .ok (.iaload, 1) := by decide +kernel
theorem dX6_tells_126 : decode cX6_tells 126 = .ok (.aload_n 0, 1) := by decide +kernel
theorem dX6_tells_127 : decode cX6_tells 127 = .ok (.getfield 29, 3) := by decide +kernel
theorem dX6_tells_130 : decode cX6_tells 130 = .ok (.aload_n 0, 1) := by decide +kernel
theorem dX6_tells_131 : decode cX6_tells 131 = .ok (.getfield 97, 3) := by decide +kernel
theorem dX6_tells_134 : decode cX6_tells 134 = .ok (.iaload, 1) := by decide +kernel
theorem dX6_tells_135 : decode cX6_tells 135 = .ok (.isub, 1) := by decide +kernel
theorem dX6_tells_136 : decode cX6_tells 136 = .ok (.putfield 103, 3) := by decide +kernel
theorem dX6_tells_139 : decode cX6_tells 139 = .ok (.return_, 1) := by decide +kernel
theorem dX6_isShown_0 : decode cX6_isShown 0 = .ok (.aload_n 0, 1) := by decide +kernel
theorem dX6_isShown_1 : decode cX6_isShown 1 = .ok (.getfield 79, 3) := by decide +kernel
theorem dX6_isShown_4 : decode cX6_isShown 4 = .ok (.ifCond .le 20, 3) := by decide +kernel
theorem dX6_isShown_7 : decode cX6_isShown 7 = .ok (.aload_n 0, 1) := by decide +kernel
theorem dX6_isShown_8 : decode cX6_isShown 8 = .ok (.getfield 103, 3) := by decide +kernel
theorem dX6_isShown_11 : decode cX6_isShown 11 = .ok (.aload_n 0, 1) := by decide +kernel
theorem dX6_isShown_12 : decode cX6_isShown 12 = .ok (.getfield 7, 3) := by decide +kernel
theorem dX6_isShown_15 : decode cX6_isShown 15 = .ok (.iconst 1, 1) := by decide +kernel
theorem dX6_isShown_16 : decode cX6_isShown 16 = .ok (.iaload, 1) := by decide +kernel
theorem dX6_isShown_17 : decode cX6_isShown 17 = .ok (.if_icmp .lt 7, 3) := by decide +kernel
theorem dX6_isShown_20 : decode cX6_isShown 20 = .ok (.iconst 1, 1) := by decide +kernel
theorem dX6_isShown_21 : decode cX6_isShown 21 = .ok (.goto 4, 3) := by decide +kernel
theorem dX6_isShown_24 : decode cX6_isShown 24 = .ok (.iconst 0, 1) := by decide +kernel
theorem dX6_isShown_25 : decode cX6_isShown 25 = .ok (.ireturn, 1) := by decide +kernel
theorem dX6_lastTime_0 : decode cX6_lastTime 0 = .ok (.aload_n 0, 1) := by decide +kernel
theorem dX6_lastTime_1 : decode cX6_lastTime 1 = .ok (.getfield 97, 3) := by decide +kernel
theorem dX6_lastTime_4 : decode cX6_lastTime 4 = .ok (.aload_n 0, 1) := by decide +kernel
theorem dX6_lastTime_5 : decode cX6_lastTime 5 = .ok (.getfield 79, 3) := by decide +kernel
theorem dX6_lastTime_8 : decode cX6_lastTime 8 = .ok (.iconst 1, 1) := by decide +kernel
theorem dX6_lastTime_9 : decode cX6_lastTime 9 = .ok (.isub, 1) := by decide +kernel
theorem dX6_lastTime_10 : decode cX6_lastTime 10 = .ok (.invokestatic 106, 3) := by decide +kernel
theorem dX6_lastTime_13 : decode cX6_lastTime 13 = .ok (.ireturn, 1) := by decide +kernel
theorem dX6_sets_0 : decode cX6_sets 0 = .ok (.aload_n 0, 1) := by decide +kernel
theorem dX6_sets_1 : decode cX6_sets 1 = .ok (.invokevirtual 109, 3) := by decide +kernel
theorem dX6_sets_4 : decode cX6_sets 4 = .ok (.aload_n 0, 1) := by decide +kernel
theorem dX6_sets_5 : decode cX6_sets 5 = .ok (.invokevirtual 112, 3) := by decide +kernel
theorem dX6_sets_8 : decode cX6_sets 8 = .ok (.ifCond .ne 6, 3) := by decide +kernel
theorem dX6_sets_11 : decode cX6_sets 11 = .ok (.bipush (-2), 2) := by decide +kernel
theorem dX6_sets_13 : decode cX6_sets 13 = .ok (.ireturn, 1) := by decide +kernel
theorem dX6_sets_14 : decode cX6_sets 14 = .ok (.aload_n 0, 1) := by decide +kernel
theorem dX6_sets_15 : decode cX6_sets 15 = .ok (.invokevirtual 116, 3) := by decide +kernel
theorem dX6_sets_18 : decode cX6_sets 18 = .ok (.istore_n 1, 1) := by decide +kernel
theorem dX6_sets_19 : decode cX6_sets 19 = .ok (.aload_n 0, 1) := by decide +kernel
theorem dX6_sets_20 : decode cX6_sets 20 = .ok (.invokevirtual 62, 3) := by decide +kernel
theorem dX6_sets_23 : decode cX6_sets 23 = .ok (.aload_n 0, 1) := by decide +kernel
theorem dX6_sets_24 : decode cX6_sets 24 = .ok (.getfield 7, 3) := by decide +kernel
theorem dX6_sets_27 : decode cX6_sets 27 = .ok (.iconst 3, 1) := by decide +kernel
theorem dX6_sets_28 : decode cX6_sets 28 = .ok (.iload_n 1, 1) := by decide +kernel
theorem dX6_sets_29 : decode cX6_sets 29 = .ok (.iastore, 1) := by decide +kernel
theorem dX6_sets_30 : decode cX6_sets 30 = .ok (.aload_n 0, 1) := by decide +kernel
theorem dX6_sets_31 : decode cX6_sets 31 = .ok (.getfield 7, 3) := by decide +kernel
theorem dX6_sets_34 : decode cX6_sets 34 = .ok (.iconst 4, 1) := by decide +kernel
theorem dX6_sets_35 : decode cX6_sets 35 = .ok (.iconst 0, 1) := by decide +kernel
theorem dX6_sets_36 : decode cX6_sets 36 = .ok (.iastore, 1) := by decide +kernel
theorem dX6_sets_37 : decode cX6_sets 37 = .ok (.iload_n 1, 1) := by decide +kernel
theorem dX6_sets_38 : decode cX6_sets 38 = .ok (.bipush 8, 2) := by decide +kernel
theorem dX6_sets_40 : decode cX6_sets 40 = .ok (.idiv, 1) := by decide +kernel
theorem dX6_sets_41 : decode cX6_sets 41 = .ok (.ireturn, 1) := by decide +kernel
theorem dX6_goes_0 : decode cX6_goes 0 = .ok (.iload_n 1, 1) := by decide +kernel
theorem dX6_goes_1 : decode cX6_goes 1 = .ok (.iconst 1, 1) := by decide +kernel
theorem dX6_goes_2 : decode cX6_goes 2 = .ok (.sipush 999, 3) := by decide +kernel
theorem dX6_goes_5 : decode cX6_goes 5 = .ok (.invokestatic 47, 3) := by decide +kernel
theorem dX6_goes_8 : decode cX6_goes 8 = .ok (.ifCond .ne 5, 3) := by decide +kernel
theorem dX6_goes_11 : decode cX6_goes 11 = .ok (.iconst (-1), 1) := by decide +kernel
theorem dX6_goes_12 : decode cX6_goes 12 = .ok (.ireturn, 1) := by decide +kernel
theorem dX6_goes_13 : decode cX6_goes 13 = .ok (.aload_n 0, 1) := by decide +kernel
theorem dX6_goes_14 : decode cX6_goes 14 = .ok (.getfield 7, 3) := by decide +kernel
theorem dX6_goes_17 : decode cX6_goes 17 = .ok (.iconst 3, 1) := by decide +kernel
theorem dX6_goes_18 : decode cX6_goes 18 = .ok (.iaload, 1) := by decide +kernel
theorem dX6_goes_19 : decode cX6_goes 19 = .ok (.bipush (-9), 2) := by decide +kernel
theorem dX6_goes_21 : decode cX6_goes 21 = .ok (.if_icmp .ne 6, 3) := by decide +kernel
theorem dX6_goes_24 : decode cX6_goes 24 = .ok (.bipush (-2), 2) := by decide +kernel
theorem dX6_goes_26 : decode cX6_goes 26 = .ok (.ireturn, 1) := by decide +kernel
theorem dX6_goes_27 : decode cX6_goes 27 = .ok (.aload_n 0, 1) := by decide +kernel
theorem dX6_goes_28 : decode cX6_goes 28 = .ok (.invokevirtual 62, 3) := by decide +kernel
theorem dX6_goes_31 : decode cX6_goes 31 = .ok (.aload_n 0, 1) := by decide +kernel
theorem dX6_goes_32 : decode cX6_goes 32 = .ok (.getfield 7, 3) := by decide +kernel
theorem dX6_goes_35 : decode cX6_goes 35 = .ok (.iconst 3, 1) := by decide +kernel
theorem dX6_goes_36 : decode cX6_goes 36 = .ok (.aload_n 0, 1) := by decide +kernel
theorem dX6_goes_37 : decode cX6_goes 37 = .ok (.getfield 7, 3) := by decide +kernel
theorem dX6_goes_40 : decode cX6_goes 40 = .ok (.iconst 3, 1) := by decide +kernel
theorem dX6_goes_41 : decode cX6_goes 41 = .ok (.iaload, 1) := by decide +kernel
theorem dX6_goes_42 : decode cX6_goes 42 = .ok (.iload_n 1, 1) := by decide +kernel
theorem dX6_goes_43 : decode cX6_goes 43 = .ok (.invokestatic 106, 3) := by decide +kernel
theorem dX6_goes_46 : decode cX6_goes 46 = .ok (.iastore, 1) := by decide +kernel
theorem dX6_goes_47 : decode cX6_goes 47 = .ok (.aload_n 0, 1) := by decide +kernel
theorem dX6_goes_48 : decode cX6_goes 48 = .ok (.getfield 7, 3) := by decide +kernel
theorem dX6_goes_51 : decode cX6_goes 51 = .ok (.iconst 4, 1) := by decide +kernel
theorem dX6_goes_52 : decode cX6_goes 52 = .ok (.aload_n 0, 1) := by decide +kernel
theorem dX6_goes_53 : decode cX6_goes 53 = .ok (.getfield 7, 3) := by decide +kernel
theorem dX6_goes_56 : decode cX6_goes 56 = .ok (.iconst 4, 1) := by decide +kernel
theorem dX6_goes_57 : decode cX6_goes 57 = .ok (.iaload, 1) := by decide +kernel
theorem dX6_goes_58 : decode cX6_goes 58 = .ok (.iload_n 1, 1) := by decide +kernel
theorem dX6_goes_59 : decode cX6_goes 59 = .ok (.iadd, 1) := by decide +kernel
theorem dX6_goes_60 : decode cX6_goes 60 = .ok (.sipush 9999, 3) := by decide +kernel
theorem dX6_goes_63 : decode cX6_goes 63 = .ok (.if_icmp .le 9, 3) := by decide +kernel
theorem dX6_goes_66 : decode cX6_goes 66 = .ok (.sipush 9999, 3) := by decide +kernel
theorem dX6_goes_69 : decode cX6_goes 69 = .ok (.goto 11, 3) := by decide +kernel
theorem dX6_goes_72 : decode cX6_goes 72 = .ok (.aload_n 0, 1) := by decide +kernel
theorem dX6_goes_73 : decode cX6_goes 73 = .ok (.getfield 7, 3) := by decide +kernel
theorem dX6_goes_76 : decode cX6_goes 76 = .ok (.iconst 4, 1) := by decide +kernel
theorem dX6_goes_77 : decode cX6_goes 77 = .ok (.iaload, 1) := by decide +kernel
theorem dX6_goes_78 : decode cX6_goes 78 = .ok (.iload_n 1, 1) := by decide +kernel
theorem dX6_goes_79 : decode cX6_goes 79 = .ok (.iadd, 1) := by decide +kernel
theorem dX6_goes_80 : decode cX6_goes 80 = .ok (.iastore, 1) := by decide +kernel
theorem dX6_goes_81 : decode cX6_goes 81 = .ok (.aload_n 0, 1) := by decide +kernel
theorem dX6_goes_82 : decode cX6_goes 82 = .ok (.getfield 7, 3) := by decide +kernel
theorem dX6_goes_85 : decode cX6_goes 85 = .ok (.iconst 3, 1) := by decide +kernel
theorem dX6_goes_86 : decode cX6_goes 86 = .ok (.iaload, 1) := by decide +kernel
theorem dX6_goes_87 : decode cX6_goes 87 = .ok (.bipush 8, 2) := by decide +kernel
theorem dX6_goes_89 : decode cX6_goes 89 = .ok (.idiv, 1) := by decide +kernel
theorem dX6_goes_90 : decode cX6_goes 90 = .ok (.ireturn, 1) := by decide +kernel
theorem dX6_undo_0 : decode cX6_undo 0 = .ok (.aload_n 0, 1) := by decide +kernel
theorem dX6_undo_1 : decode cX6_undo 1 = .ok (.getfield 55, 3) := by decide +kernel
theorem dX6_undo_4 : decode cX6_undo 4 = .ok (.ifCond .ne 6, 3) := by decide +kernel
theorem dX6_undo_7 : decode cX6_undo 7 = .ok (.bipush (-2), 2) := by decide +kernel
theorem dX6_undo_9 : decode cX6_undo 9 = .ok (.ireturn, 1) := by decide +kernel
theorem dX6_undo_10 : decode cX6_undo 10 = .ok (.aload_n 0, 1) := by decide +kernel
theorem dX6_undo_11 : decode cX6_undo 11 = .ok (.aload_n 0, 1) := by decide +kernel
theorem dX6_undo_12 : decode cX6_undo 12 = .ok (.getfield 51, 3) := by decide +kernel
theorem dX6_undo_15 : decode cX6_undo 15 = .ok (.bipush 10, 2) := by decide +kernel
theorem dX6_undo_17 : decode cX6_undo 17 = .ok (.iadd, 1) := by decide +kernel
theorem dX6_undo_18 : decode cX6_undo 18 = .ok (.iconst 1, 1) := by decide +kernel
theorem dX6_undo_19 : decode cX6_undo 19 = .ok (.isub, 1) := by decide +kernel
theorem dX6_undo_20 : decode cX6_undo 20 = .ok (.bipush 10, 2) := by decide +kernel
theorem dX6_undo_22 : decode cX6_undo 22 = .ok (.irem, 1) := by decide +kernel
theorem dX6_undo_23 : decode cX6_undo 23 = .ok (.putfield 51, 3) := by decide +kernel
theorem dX6_undo_26 : decode cX6_undo 26 = .ok (.aload_n 0, 1) := by decide +kernel
theorem dX6_undo_27 : decode cX6_undo 27 = .ok (.dup, 1) := by decide +kernel
theorem dX6_undo_28 : decode cX6_undo 28 = .ok (.getfield 55, 3) := by decide +kernel
theorem dX6_undo_31 : decode cX6_undo 31 = .ok (.iconst 1, 1) := by decide +kernel
theorem dX6_undo_32 : decode cX6_undo 32 = .ok (.isub, 1) := by decide +kernel
theorem dX6_undo_33 : decode cX6_undo 33 = .ok (.putfield 55, 3) := by decide +kernel
theorem dX6_undo_36 : decode cX6_undo 36 = .ok (.iconst 0, 1) := by decide +kernel
theorem dX6_undo_37 : decode cX6_undo 37 = .ok (.istore_n 1, 1) := by decide +kernel
theorem dX6_undo_38 : decode cX6_undo 38 = .ok (.iload_n 1, 1) := by decide +kernel
theorem dX6_undo_39 : decode cX6_undo 39 = .ok (.bipush 126, 2) := by decide +kernel
theorem dX6_undo_41 : decode cX6_undo 41 = .ok (.if_icmp .ge 29, 3) := by decide +kernel
theorem dX6_undo_44 : decode cX6_undo 44 = .ok (.aload_n 0, 1) := by decide +kernel
theorem dX6_undo_45 : decode cX6_undo 45 = .ok (.getfield 7, 3) := by decide +kernel
theorem dX6_undo_48 : decode cX6_undo 48 = .ok (.iload_n 1, 1) := by decide +kernel
theorem dX6_undo_49 : decode cX6_undo 49 = .ok (.aload_n 0, 1) := by decide +kernel
theorem dX6_undo_50 : decode cX6_undo 50 = .ok (.getfield 13, 3) := by decide +kernel
theorem dX6_undo_53 : decode cX6_undo 53 = .ok (.bipush 126, 2) := by decide +kernel
theorem dX6_undo_55 : decode cX6_undo 55 = .ok (.aload_n 0, 1) := by decide +kernel
theorem dX6_undo_56 : decode cX6_undo 56 = .ok (.getfield 51, 3) := by decide +kernel
theorem dX6_undo_59 : decode cX6_undo 59 = .ok (.imul, 1) := by decide +kernel
theorem dX6_undo_60 : decode cX6_undo 60 = .ok (.iload_n 1, 1) := by decide +kernel
theorem dX6_undo_61 : decode cX6_undo 61 = .ok (.iadd, 1) := by decide +kernel
theorem dX6_undo_62 : decode cX6_undo 62 = .ok (.iaload, 1) := by decide +kernel
theorem dX6_undo_63 : decode cX6_undo 63 = .ok (.iastore, 1) := by decide +kernel
theorem dX6_undo_64 : decode cX6_undo 64 = .ok (.iinc 1 1, 3) := by decide +kernel
theorem dX6_undo_67 : decode cX6_undo 67 = .ok (.goto (-29), 3) := by decide +kernel
theorem dX6_undo_70 : decode cX6_undo 70 = .ok (.aload_n 0, 1) := by decide +kernel
theorem dX6_undo_71 : decode cX6_undo 71 = .ok (.iconst 0, 1) := by decide +kernel
theorem dX6_undo_72 : decode cX6_undo 72 = .ok (.putfield 58, 3) := by decide +kernel
theorem dX6_undo_75 : decode cX6_undo 75 = .ok (.aload_n 0, 1) := by decide +kernel
theorem dX6_undo_76 : decode cX6_undo 76 = .ok (.getfield 55, 3) := by decide +kernel
theorem dX6_undo_79 : decode cX6_undo 79 = .ok (.ireturn, 1) := by decide +kernel
theorem dX6_symbol_0 : decode cX6_symbol 0 = .ok (.iload_n 1, 1) := by decide +kernel
theorem dX6_symbol_1 : decode cX6_symbol 1 = .ok (.iconst 0, 1) := by decide +kernel
theorem dX6_symbol_2 : decode cX6_symbol 2 = .ok (.aload_n 0, 1) := by decide +kernel
theorem dX6_symbol_3 : decode cX6_symbol 3 = .ok (.getfield 7, 3) := by decide +kernel
theorem dX6_symbol_6 : decode cX6_symbol 6 = .ok (.iconst 0, 1) := by decide +kernel
theorem dX6_symbol_7 : decode cX6_symbol 7 = .ok (.iaload, 1) := by decide +kernel
theorem dX6_symbol_8 : decode cX6_symbol 8 = .ok (.iconst 1, 1) := by decide +kernel
theorem dX6_symbol_9 : decode cX6_symbol 9 = .ok (.isub, 1) := by decide +kernel
theorem dX6_symbol_10 : decode cX6_symbol 10 = .ok (.invokestatic 47, 3) := by decide +kernel
theorem dX6_symbol_13 : decode cX6_symbol 13 = .ok (.ifCond .eq 11, 3) := by decide +kernel
theorem dX6_symbol_16 : decode cX6_symbol 16 = .ok (.aload_n 0, 1) := by decide +kernel
theorem dX6_symbol_17 : decode cX6_symbol 17 = .ok (.iload_n 1, 1) := by decide +kernel
theorem dX6_symbol_18 : decode cX6_symbol 18 = .ok (.invokevirtual 73, 3) := by decide +kernel
theorem dX6_symbol_21 : decode cX6_symbol 21 = .ok (.goto 4, 3) := by decide +kernel
theorem dX6_symbol_24 : decode cX6_symbol 24 = .ok (.iconst (-1), 1) := by decide +kernel
theorem dX6_symbol_25 : decode cX6_symbol 25 = .ok (.ireturn, 1) := by decide +kernel
theorem dX6_isClear_0 : decode cX6_isClear 0 = .ok (.iconst 1, 1) := by decide +kernel
theorem dX6_isClear_1 : decode cX6_isClear 1 = .ok (.istore 4, 2) := by decide +kernel
theorem dX6_isClear_3 : decode cX6_isClear 3 = .ok (.iload_n 2, 1) := by decide +kernel
theorem dX6_isClear_4 : decode cX6_isClear 4 = .ok (.istore 5, 2) := by decide +kernel
theorem dX6_isClear_6 : decode cX6_isClear 6 = .ok (.iload 5, 2) := by decide +kernel
theorem dX6_isClear_8 : decode cX6_isClear 8 = .ok (.iload_n 3, 1) := by decide +kernel
theorem dX6_isClear_9 : decode cX6_isClear 9 = .ok (.if_icmp .gt 35, 3) := by decide +kernel
theorem dX6_isClear_12 : decode cX6_isClear 12 = .ok (.iload 4, 2) := by decide +kernel
theorem dX6_isClear_14 : decode cX6_isClear 14 = .ok (.ifCond .eq 21, 3) := by decide +kernel
theorem dX6_isClear_17 : decode cX6_isClear 17 = .ok (.aload_n 0, 1) := by decide +kernel
theorem dX6_isClear_18 : decode cX6_isClear 18 = .ok (.getfield 23, 3) := by decide +kernel
theorem dX6_isClear_21 : decode cX6_isClear 21 = .ok (.iload_n 1, 1) := by decide +kernel
theorem dX6_isClear_22 : decode cX6_isClear 22 = .ok (.iaload, 1) := by decide +kernel
theorem dX6_isClear_23 : decode cX6_isClear 23 = .ok (.iload 5, 2) := by decide +kernel
theorem dX6_isClear_25 : decode cX6_isClear 25 = .ok (.invokestatic 32, 3) := by decide +kernel
theorem dX6_isClear_28 : decode cX6_isClear 28 = .ok (.ifCond .eq 7, 3) := by decide +kernel
theorem dX6_isClear_31 : decode cX6_isClear 31 = .ok (.iconst 1, 1) := by decide +kernel
theorem dX6_isClear_32 : decode cX6_isClear 32 = .ok (.goto 4, 3) := by decide +kernel
theorem dX6_isClear_35 : decode cX6_isClear 35 = .ok (.iconst 0, 1) := by decide +kernel
theorem dX6_isClear_36 : decode cX6_isClear 36 = .ok (.istore 4, 2) := by decide +kernel
theorem dX6_isClear_38 : decode cX6_isClear 38 = .ok (.iinc 5 1, 3) := by decide +kernel
theorem dX6_isClear_41 : decode cX6_isClear 41 = .ok (.goto (-35), 3) := by decide +kernel
theorem dX6_isClear_44 : decode cX6_isClear 44 = .ok (.iload 4, 2) := by decide +kernel
theorem dX6_isClear_46 : decode cX6_isClear 46 = .ok (.ireturn, 1) := by decide +kernel
theorem dX6_valueOf_0 : decode cX6_valueOf 0 = .ok (.aload_n 0, 1) := by decide +kernel
theorem dX6_valueOf_1 : decode cX6_valueOf 1 = .ok (.getfield 26, 3) := by decide +kernel
theorem dX6_valueOf_4 : decode cX6_valueOf 4 = .ok (.iload_n 1, 1) := by decide +kernel
theorem dX6_valueOf_5 : decode cX6_valueOf 5 = .ok (.iaload, 1) := by decide +kernel
theorem dX6_valueOf_6 : decode cX6_valueOf 6 = .ok (.iload_n 2, 1) := by decide +kernel
theorem dX6_valueOf_7 : decode cX6_valueOf 7 = .ok (.ishr, 1) := by decide +kernel
theorem dX6_valueOf_8 : decode cX6_valueOf 8 = .ok (.iconst 1, 1) := by decide +kernel
theorem dX6_valueOf_9 : decode cX6_valueOf 9 = .ok (.iload_n 3, 1) := by decide +kernel
theorem dX6_valueOf_10 : decode cX6_valueOf 10 = .ok (.ishl, 1) := by decide +kernel
theorem dX6_valueOf_11 : decode cX6_valueOf 11 = .ok (.iconst 1, 1) := by decide +kernel
theorem dX6_valueOf_12 : decode cX6_valueOf 12 = .ok (.isub, 1) := by decide +kernel
theorem dX6_valueOf_13 : decode cX6_valueOf 13 = .ok (.iand, 1) := by decide +kernel
theorem dX6_valueOf_14 : decode cX6_valueOf 14 = .ok (.ireturn, 1) := by decide +kernel
theorem dX6_parity_0 : decode cX6_parity 0 = .ok (.aload_n 0, 1) := by decide +kernel
theorem dX6_parity_1 : decode cX6_parity 1 = .ok (.iload_n 1, 1) := by decide +kernel
theorem dX6_parity_2 : decode cX6_parity 2 = .ok (.iload_n 2, 1) := by decide +kernel
theorem dX6_parity_3 : decode cX6_parity 3 = .ok (.iload_n 3, 1) := by decide +kernel
theorem dX6_parity_4 : decode cX6_parity 4 = .ok (.invokevirtual 120, 3) := by decide +kernel
theorem dX6_parity_7 : decode cX6_parity 7 = .ok (.ifCond .eq 24, 3) := by decide +kernel
theorem dX6_parity_10 : decode cX6_parity 10 = .ok (.iconst 1, 1) := by decide +kernel
theorem dX6_parity_11 : decode cX6_parity 11 = .ok (.aload_n 0, 1) := by decide +kernel
theorem dX6_parity_12 : decode cX6_parity 12 = .ok (.iload_n 1, 1) := by decide +kernel
theorem dX6_parity_13 : decode cX6_parity 13 = .ok (.iload_n 2, 1) := by decide +kernel
theorem dX6_parity_14 : decode cX6_parity 14 = .ok (.iload_n 3, 1) := by decide +kernel
theorem dX6_parity_15 : decode cX6_parity 15 = .ok (.iload_n 2, 1) := by decide +kernel
theorem dX6_parity_16 : decode cX6_parity 16 = .ok (.isub, 1) := by decide +kernel
theorem dX6_parity_17 : decode cX6_parity 17 = .ok (.iconst 1, 1) := by decide +kernel
theorem dX6_parity_18 : decode cX6_parity 18 = .ok (.iadd, 1) := by decide +kernel
theorem dX6_parity_19 : decode cX6_parity 19 = .ok (.invokevirtual 123, 3) := by decide +kernel
theorem dX6_parity_22 : decode cX6_parity 22 = .ok (.invokestatic 40, 3) := by decide +kernel
theorem dX6_parity_25 : decode cX6_parity 25 = .ok (.iconst 2, 1) := by decide +kernel
theorem dX6_parity_26 : decode cX6_parity 26 = .ok (.irem, 1) := by decide +kernel
theorem dX6_parity_27 : decode cX6_parity 27 = .ok (.isub, 1) := by decide +kernel
theorem dX6_parity_28 : decode cX6_parity 28 = .ok (.goto 4, 3) := by decide +kernel
theorem dX6_parity_31 : decode cX6_parity 31 = .ok (.iconst 2, 1) := by decide +kernel
theorem dX6_parity_32 : decode cX6_parity 32 = .ok (.ireturn, 1) := by decide +kernel
theorem dX6_twoFigures_0 : decode cX6_twoFigures 0 = .ok (.aload_n 0, 1) := by decide +kernel
theorem dX6_twoFigures_1 : decode cX6_twoFigures 1 = .ok (.iload_n 1, 1) := by decide +kernel
theorem dX6_twoFigures_2 : decode cX6_twoFigures 2 = .ok (.iload_n 2, 1) := by decide +kernel
theorem dX6_twoFigures_3 : decode cX6_twoFigures 3 = .ok (.iconst 4, 1) := by decide +kernel
theorem dX6_twoFigures_4 : decode cX6_twoFigures 4 = .ok (.invokevirtual 123, 3) := by decide +kernel
theorem dX6_twoFigures_7 : decode cX6_twoFigures 7 = .ok (.istore 5, 2) := by decide +kernel
theorem dX6_twoFigures_9 : decode cX6_twoFigures 9 = .ok (.bipush 10, 2) := by decide +kernel
theorem dX6_twoFigures_11 : decode cX6_twoFigures 11 = .ok (.aload_n 0, 1) := by decide +kernel
theorem dX6_twoFigures_12 : decode cX6_twoFigures 12 = .ok (.iload_n 1, 1) := by decide +kernel
theorem dX6_twoFigures_13 : decode cX6_twoFigures 13 = .ok (.iload_n 2, 1) := by decide +kernel
theorem dX6_twoFigures_14 : decode cX6_twoFigures 14 = .ok (.iconst 4, 1) := by decide +kernel
theorem dX6_twoFigures_15 : decode cX6_twoFigures 15 = .ok (.iadd, 1) := by decide +kernel
theorem dX6_twoFigures_16 : decode cX6_twoFigures 16 = .ok (.iload_n 3, 1) := by decide +kernel
theorem dX6_twoFigures_17 : decode cX6_twoFigures 17 = .ok (.iload_n 2, 1) := by decide +kernel
theorem dX6_twoFigures_18 : decode cX6_twoFigures 18 = .ok (.isub, 1) := by decide +kernel
theorem dX6_twoFigures_19 : decode cX6_twoFigures 19 = .ok (.iconst 3, 1) := by decide +kernel
theorem dX6_twoFigures_20 : decode cX6_twoFigures 20 = .ok (.isub, 1) := by decide +kernel
theorem dX6_twoFigures_21 : decode cX6_twoFigures 21 = .ok (.invokevirtual 123, 3) := by decide +kernel
theorem dX6_twoFigures_24 : decode cX6_twoFigures 24 = .ok (.imul, 1) := by decide +kernel
theorem dX6_twoFigures_25 : decode cX6_twoFigures 25 = .ok (.iload 5, 2) := by decide +kernel
theorem dX6_twoFigures_27 : decode cX6_twoFigures 27 = .ok (.iadd, 1) := by decide +kernel
theorem dX6_twoFigures_28 : decode cX6_twoFigures 28 = .ok (.istore 6, 2) := by decide +kernel
theorem dX6_twoFigures_30 : decode cX6_twoFigures 30 = .ok (.aload_n 0, 1) := by decide +kernel
theorem dX6_twoFigures_31 : decode cX6_twoFigures 31 = .ok (.iload_n 1, 1) := by decide +kernel
theorem dX6_twoFigures_32 : decode cX6_twoFigures 32 = .ok (.iload_n 2, 1) := by decide +kernel
theorem dX6_twoFigures_33 : decode cX6_twoFigures 33 = .ok (.iload_n 3, 1) := by decide +kernel
theorem dX6_twoFigures_34 : decode cX6_twoFigures 34 = .ok (.invokevirtual 120, 3) := by decide +kernel
theorem dX6_twoFigures_37 : decode cX6_twoFigures 37 = .ok (.ifCond .eq 22, 3) := by decide +kernel
theorem dX6_twoFigures_40 : decode cX6_twoFigures 40 = .ok (.iload 5, 2) := by decide +kernel
theorem dX6_twoFigures_42 : decode cX6_twoFigures 42 = .ok (.bipush 10, 2) := by decide +kernel
theorem dX6_twoFigures_44 : decode cX6_twoFigures 44 = .ok (.if_icmp .ge 15, 3) := by decide +kernel
theorem dX6_twoFigures_47 : decode cX6_twoFigures 47 = .ok (.iload 6, 2) := by decide +kernel
theorem dX6_twoFigures_49 : decode cX6_twoFigures 49 = .ok (.iload 4, 2) := by decide +kernel
theorem dX6_twoFigures_51 : decode cX6_twoFigures 51 = .ok (.if_icmp .gt 8, 3) := by decide +kernel
theorem dX6_twoFigures_54 : decode cX6_twoFigures 54 = .ok (.iload 6, 2) := by decide +kernel
theorem dX6_twoFigures_56 : decode cX6_twoFigures 56 = .ok (.goto 5, 3) := by decide +kernel
theorem dX6_twoFigures_59 : decode cX6_twoFigures 59 = .ok (.bipush (-9), 2) := by decide +kernel
theorem dX6_twoFigures_61 : decode cX6_twoFigures 61 = .ok (.ireturn, 1) := by decide +kernel
theorem dX6_read_0 : decode cX6_read 0 = .ok (.aload_n 0, 1) := by decide +kernel
theorem dX6_read_1 : decode cX6_read 1 = .ok (.invokevirtual 109, 3) := by decide +kernel
theorem dX6_read_4 : decode cX6_read 4 = .ok (.iload_n 1, 1) := by decide +kernel
theorem dX6_read_5 : decode cX6_read 5 = .ok (.iconst 0, 1) := by decide +kernel
theorem dX6_read_6 : decode cX6_read 6 = .ok (.aload_n 0, 1) := by decide +kernel
theorem dX6_read_7 : decode cX6_read 7 = .ok (.getfield 79, 3) := by decide +kernel
theorem dX6_read_10 : decode cX6_read 10 = .ok (.iconst 1, 1) := by decide +kernel
theorem dX6_read_11 : decode cX6_read 11 = .ok (.isub, 1) := by decide +kernel
theorem dX6_read_12 : decode cX6_read 12 = .ok (.invokestatic 47, 3) := by decide +kernel
theorem dX6_read_15 : decode cX6_read 15 = .ok (.ifCond .eq 13, 3) := by decide +kernel
theorem dX6_read_18 : decode cX6_read 18 = .ok (.iload_n 2, 1) := by decide +kernel
theorem dX6_read_19 : decode cX6_read 19 = .ok (.iconst 0, 1) := by decide +kernel
theorem dX6_read_20 : decode cX6_read 20 = .ok (.bipush 8, 2) := by decide +kernel
theorem dX6_read_22 : decode cX6_read 22 = .ok (.invokestatic 47, 3) := by decide +kernel
theorem dX6_read_25 : decode cX6_read 25 = .ok (.ifCond .ne 5, 3) := by decide +kernel
theorem dX6_read_28 : decode cX6_read 28 = .ok (.iconst (-1), 1) := by decide +kernel
theorem dX6_read_29 : decode cX6_read 29 = .ok (.ireturn, 1) := by decide +kernel
theorem dX6_read_30 : decode cX6_read 30 = .ok (.iload_n 2, 1) := by decide +kernel
theorem dX6_read_31 : decode cX6_read 31 = .ok (.tableswitch 111 0 8 #[49, 55, 64, 74, 85, 111, 111, 111, 97], 49) := by decide +kernel
theorem dX6_read_80 : decode cX6_read 80 = .ok (.aload_n 0, 1) := by decide +kernel
theorem dX6_read_81 : decode cX6_read 81 = .ok (.iload_n 1, 1) := by decide +kernel
theorem dX6_read_82 : decode cX6_read 82 = .ok (.invokevirtual 82, 3) := by decide +kernel
theorem dX6_read_85 : decode cX6_read 85 = .ok (.ireturn, 1) := by decide +kernel
theorem dX6_read_86 : decode cX6_read 86 = .ok (.aload_n 0, 1) := by decide +kernel
theorem dX6_read_87 : decode cX6_read 87 = .ok (.iload_n 1, 1) := by decide +kernel
theorem dX6_read_88 : decode cX6_read 88 = .ok (.iconst 4, 1) := by decide +kernel
theorem dX6_read_89 : decode cX6_read 89 = .ok (.bipush 11, 2) := by decide +kernel
theorem dX6_read_91 : decode cX6_read 91 = .ok (.invokevirtual 127, 3) := by decide +kernel
theorem dX6_read_94 : decode cX6_read 94 = .ok (.ireturn, 1) := by decide +kernel
theorem dX6_read_95 : decode cX6_read 95 = .ok (.aload_n 0, 1) := by decide +kernel
theorem dX6_read_96 : decode cX6_read 96 = .ok (.iload_n 1, 1) := by decide +kernel
theorem dX6_read_97 : decode cX6_read 97 = .ok (.bipush 12, 2) := by decide +kernel
theorem dX6_read_99 : decode cX6_read 99 = .ok (.bipush 18, 2) := by decide +kernel
theorem dX6_read_101 : decode cX6_read 101 = .ok (.invokevirtual 127, 3) := by decide +kernel
theorem dX6_read_104 : decode cX6_read 104 = .ok (.ireturn, 1) := by decide +kernel
theorem dX6_read_105 : decode cX6_read 105 = .ok (.aload_n 0, 1) := by decide +kernel
theorem dX6_read_106 : decode cX6_read 106 = .ok (.iload_n 1, 1) := by decide +kernel
theorem dX6_read_107 : decode cX6_read 107 = .ok (.iconst 4, 1) := by decide +kernel
theorem dX6_read_108 : decode cX6_read 108 = .ok (.bipush 10, 2) := by decide +kernel
theorem dX6_read_110 : decode cX6_read 110 = .ok (.bipush 59, 2) := by decide +kernel
theorem dX6_read_112 : decode cX6_read 112 = .ok (.invokevirtual 130, 3) := by decide +kernel
theorem dX6_read_115 : decode cX6_read 115 = .ok (.ireturn, 1) := by decide +kernel
theorem dX6_read_116 : decode cX6_read 116 = .ok (.aload_n 0, 1) := by decide +kernel
theorem dX6_read_117 : decode cX6_read 117 = .ok (.iload_n 1, 1) := by decide +kernel
theorem dX6_read_118 : decode cX6_read 118 = .ok (.bipush 12, 2) := by decide +kernel
theorem dX6_read_120 : decode cX6_read 120 = .ok (.bipush 17, 2) := by decide +kernel
theorem dX6_read_122 : decode cX6_read 122 = .ok (.bipush 23, 2) := by decide +kernel
theorem dX6_read_124 : decode cX6_read 124 = .ok (.invokevirtual 130, 3) := by decide +kernel
theorem dX6_read_127 : decode cX6_read 127 = .ok (.ireturn, 1) := by decide +kernel
theorem dX6_read_128 : decode cX6_read 128 = .ok (.aload_n 0, 1) := by decide +kernel
theorem dX6_read_129 : decode cX6_read 129 = .ok (.aload_n 0, 1) := by decide +kernel
theorem dX6_read_130 : decode cX6_read 130 = .ok (.getfield 97, 3) := by decide +kernel
theorem dX6_read_133 : decode cX6_read 133 = .ok (.iload_n 1, 1) := by decide +kernel
theorem dX6_read_134 : decode cX6_read 134 = .ok (.invokestatic 106, 3) := by decide +kernel
theorem dX6_read_137 : decode cX6_read 137 = .ok (.iload_n 1, 1) := by decide +kernel
theorem dX6_read_138 : decode cX6_read 138 = .ok (.invokevirtual 88, 3) := by decide +kernel
theorem dX6_read_141 : decode cX6_read 141 = .ok (.ireturn, 1) := by decide +kernel
theorem dX6_read_142 : decode cX6_read 142 = .ok (.aload_n 0, 1) := by decide +kernel
theorem dX6_read_143 : decode cX6_read 143 = .ok (.aload_n 0, 1) := by decide +kernel
theorem dX6_read_144 : decode cX6_read 144 = .ok (.iload_n 1, 1) := by decide +kernel
theorem dX6_read_145 : decode cX6_read 145 = .ok (.invokevirtual 82, 3) := by decide +kernel
theorem dX6_read_148 : decode cX6_read 148 = .ok (.iload_n 2, 1) := by decide +kernel
theorem dX6_read_149 : decode cX6_read 149 = .ok (.iadd, 1) := by decide +kernel
theorem dX6_read_150 : decode cX6_read 150 = .ok (.iconst 4, 1) := by decide +kernel
theorem dX6_read_151 : decode cX6_read 151 = .ok (.isub, 1) := by decide +kernel
theorem dX6_read_152 : decode cX6_read 152 = .ok (.invokevirtual 73, 3) := by decide +kernel
theorem dX6_read_155 : decode cX6_read 155 = .ok (.ireturn, 1) := by decide +kernel
theorem dX6_vote_0 : decode cX6_vote 0 = .ok (.iload_n 1, 1) := by decide +kernel
theorem dX6_vote_1 : decode cX6_vote 1 = .ok (.iconst 0, 1) := by decide +kernel
theorem dX6_vote_2 : decode cX6_vote 2 = .ok (.bipush 10, 2) := by decide +kernel
theorem dX6_vote_4 : decode cX6_vote 4 = .ok (.invokestatic 47, 3) := by decide +kernel
theorem dX6_vote_7 : decode cX6_vote 7 = .ok (.ifCond .ne 5, 3) := by decide +kernel
theorem dX6_vote_10 : decode cX6_vote 10 = .ok (.iconst (-1), 1) := by decide +kernel
theorem dX6_vote_11 : decode cX6_vote 11 = .ok (.ireturn, 1) := by decide +kernel
theorem dX6_vote_12 : decode cX6_vote 12 = .ok (.aload_n 0, 1) := by decide +kernel
theorem dX6_vote_13 : decode cX6_vote 13 = .ok (.invokevirtual 109, 3) := by decide +kernel
theorem dX6_vote_16 : decode cX6_vote 16 = .ok (.aload_n 0, 1) := by decide +kernel
theorem dX6_vote_17 : decode cX6_vote 17 = .ok (.getfield 79, 3) := by decide +kernel
theorem dX6_vote_20 : decode cX6_vote 20 = .ok (.ifCond .ne 6, 3) := by decide +kernel
theorem dX6_vote_23 : decode cX6_vote 23 = .ok (.bipush (-9), 2) := by decide +kernel
theorem dX6_vote_25 : decode cX6_vote 25 = .ok (.ireturn, 1) := by decide +kernel
theorem dX6_vote_26 : decode cX6_vote 26 = .ok (.iload_n 1, 1) := by decide +kernel
theorem dX6_vote_27 : decode cX6_vote 27 = .ok (.tableswitch 53 4 6 #[25, 35, 40], 25) := by decide +kernel
theorem dX6_vote_52 : decode cX6_vote 52 = .ok (.aload_n 0, 1) := by decide +kernel
theorem dX6_vote_53 : decode cX6_vote 53 = .ok (.getfield 29, 3) := by decide +kernel
theorem dX6_vote_56 : decode cX6_vote 56 = .ok (.aload_n 0, 1) := by decide +kernel
theorem dX6_vote_57 : decode cX6_vote 57 = .ok (.getfield 97, 3) := by decide +kernel
theorem dX6_vote_60 : decode cX6_vote 60 = .ok (.iaload, 1) := by decide +kernel
theorem dX6_vote_61 : decode cX6_vote 61 = .ok (.ireturn, 1) := by decide +kernel
theorem dX6_vote_62 : decode cX6_vote 62 = .ok (.aload_n 0, 1) := by decide +kernel
theorem dX6_vote_63 : decode cX6_vote 63 = .ok (.getfield 103, 3) := by decide +kernel
theorem dX6_vote_66 : decode cX6_vote 66 = .ok (.ireturn, 1) := by decide +kernel
theorem dX6_vote_67 : decode cX6_vote 67 = .ok (.aload_n 0, 1) := by decide +kernel
theorem dX6_vote_68 : decode cX6_vote 68 = .ok (.invokevirtual 112, 3) := by decide +kernel
theorem dX6_vote_71 : decode cX6_vote 71 = .ok (.ifCond .eq 7, 3) := by decide +kernel
theorem dX6_vote_74 : decode cX6_vote 74 = .ok (.iconst 1, 1) := by decide +kernel
theorem dX6_vote_75 : decode cX6_vote 75 = .ok (.goto 4, 3) := by decide +kernel
theorem dX6_vote_78 : decode cX6_vote 78 = .ok (.iconst 0, 1) := by decide +kernel
theorem dX6_vote_79 : decode cX6_vote 79 = .ok (.ireturn, 1) := by decide +kernel
theorem dX6_vote_80 : decode cX6_vote 80 = .ok (.iload_n 1, 1) := by decide +kernel
theorem dX6_vote_81 : decode cX6_vote 81 = .ok (.iconst 4, 1) := by decide +kernel
theorem dX6_vote_82 : decode cX6_vote 82 = .ok (.if_icmp .ge 14, 3) := by decide +kernel
theorem dX6_vote_85 : decode cX6_vote 85 = .ok (.aload_n 0, 1) := by decide +kernel
theorem dX6_vote_86 : decode cX6_vote 86 = .ok (.getfield 97, 3) := by decide +kernel
theorem dX6_vote_89 : decode cX6_vote 89 = .ok (.iload_n 1, 1) := by decide +kernel
theorem dX6_vote_90 : decode cX6_vote 90 = .ok (.invokestatic 134, 3) := by decide +kernel
theorem dX6_vote_93 : decode cX6_vote 93 = .ok (.goto 14, 3) := by decide +kernel
theorem dX6_vote_96 : decode cX6_vote 96 = .ok (.aload_n 0, 1) := by decide +kernel
theorem dX6_vote_97 : decode cX6_vote 97 = .ok (.invokevirtual 116, 3) := by decide +kernel
theorem dX6_vote_100 : decode cX6_vote 100 = .ok (.iload_n 1, 1) := by decide +kernel
theorem dX6_vote_101 : decode cX6_vote 101 = .ok (.bipush 7, 2) := by decide +kernel
theorem dX6_vote_103 : decode cX6_vote 103 = .ok (.isub, 1) := by decide +kernel
theorem dX6_vote_104 : decode cX6_vote 104 = .ok (.invokestatic 134, 3) := by decide +kernel
theorem dX6_vote_107 : decode cX6_vote 107 = .ok (.ireturn, 1) := by decide +kernel
theorem dX6_misses_0 : decode cX6_misses 0 = .ok (.iload_n 1, 1) := by decide +kernel
theorem dX6_misses_1 : decode cX6_misses 1 = .ok (.iload_n 2, 1) := by decide +kernel
theorem dX6_misses_2 : decode cX6_misses 2 = .ok (.iload_n 3, 1) := by decide +kernel
theorem dX6_misses_3 : decode cX6_misses 3 = .ok (.iload 4, 2) := by decide +kernel
theorem dX6_misses_5 : decode cX6_misses 5 = .ok (.invokestatic 137, 3) := by decide +kernel
theorem dX6_misses_8 : decode cX6_misses 8 = .ok (.ifCond .ne 5, 3) := by decide +kernel
theorem dX6_misses_11 : decode cX6_misses 11 = .ok (.iconst (-1), 1) := by decide +kernel
theorem dX6_misses_12 : decode cX6_misses 12 = .ok (.ireturn, 1) := by decide +kernel
theorem dX6_misses_13 : decode cX6_misses 13 = .ok (.aload_n 0, 1) := by decide +kernel
theorem dX6_misses_14 : decode cX6_misses 14 = .ok (.invokevirtual 109, 3) := by decide +kernel
theorem dX6_misses_17 : decode cX6_misses 17 = .ok (.aload_n 0, 1) := by decide +kernel
theorem dX6_misses_18 : decode cX6_misses 18 = .ok (.getfield 29, 3) := by decide +kernel
theorem dX6_misses_21 : decode cX6_misses 21 = .ok (.iload_n 1, 1) := by decide +kernel
theorem dX6_misses_22 : decode cX6_misses 22 = .ok (.iload_n 2, 1) := by decide +kernel
theorem dX6_misses_23 : decode cX6_misses 23 = .ok (.iload_n 3, 1) := by decide +kernel
theorem dX6_misses_24 : decode cX6_misses 24 = .ok (.iload 4, 2) := by decide +kernel
theorem dX6_misses_26 : decode cX6_misses 26 = .ok (.invokestatic 141, 3) := by decide +kernel
theorem dX6_misses_29 : decode cX6_misses 29 = .ok (.iaload, 1) := by decide +kernel
theorem dX6_misses_30 : decode cX6_misses 30 = .ok (.ireturn, 1) := by decide +kernel
theorem dX6_close_0 : decode cX6_close 0 = .ok (.iload_n 1, 1) := by decide +kernel
theorem dX6_close_1 : decode cX6_close 1 = .ok (.iconst 0, 1) := by decide +kernel
theorem dX6_close_2 : decode cX6_close 2 = .ok (.bipush 120, 2) := by decide +kernel
theorem dX6_close_4 : decode cX6_close 4 = .ok (.invokestatic 47, 3) := by decide +kernel
theorem dX6_close_7 : decode cX6_close 7 = .ok (.ifCond .eq 8, 3) := by decide +kernel
theorem dX6_close_10 : decode cX6_close 10 = .ok (.iload_n 2, 1) := by decide +kernel
theorem dX6_close_11 : decode cX6_close 11 = .ok (.iconst (-1), 1) := by decide +kernel
theorem dX6_close_12 : decode cX6_close 12 = .ok (.if_icmp .ge 5, 3) := by decide +kernel
theorem dX6_close_15 : decode cX6_close 15 = .ok (.iconst (-1), 1) := by decide +kernel
theorem dX6_close_16 : decode cX6_close 16 = .ok (.ireturn, 1) := by decide +kernel
theorem dX6_close_17 : decode cX6_close 17 = .ok (.aload_n 0, 1) := by decide +kernel
theorem dX6_close_18 : decode cX6_close 18 = .ok (.invokevirtual 109, 3) := by decide +kernel
theorem dX6_close_21 : decode cX6_close 21 = .ok (.iconst 0, 1) := by decide +kernel
theorem dX6_close_22 : decode cX6_close 22 = .ok (.istore_n 3, 1) := by decide +kernel
theorem dX6_close_23 : decode cX6_close 23 = .ok (.iconst 0, 1) := by decide +kernel
theorem dX6_close_24 : decode cX6_close 24 = .ok (.istore 4, 2) := by decide +kernel
theorem dX6_close_26 : decode cX6_close 26 = .ok (.iload 4, 2) := by decide +kernel
theorem dX6_close_28 : decode cX6_close 28 = .ok (.sipush 11520, 3) := by decide +kernel
theorem dX6_close_31 : decode cX6_close 31 = .ok (.if_icmp .ge 31, 3) := by decide +kernel
theorem dX6_close_34 : decode cX6_close 34 = .ok (.aload_n 0, 1) := by decide +kernel
theorem dX6_close_35 : decode cX6_close 35 = .ok (.getfield 29, 3) := by decide +kernel
theorem dX6_close_38 : decode cX6_close 38 = .ok (.iload 4, 2) := by decide +kernel
theorem dX6_close_40 : decode cX6_close 40 = .ok (.iaload, 1) := by decide +kernel
theorem dX6_close_41 : decode cX6_close 41 = .ok (.iload_n 1, 1) := by decide +kernel
theorem dX6_close_42 : decode cX6_close 42 = .ok (.if_icmp .gt 14, 3) := by decide +kernel
theorem dX6_close_45 : decode cX6_close 45 = .ok (.iload_n 3, 1) := by decide +kernel
theorem dX6_close_46 : decode cX6_close 46 = .ok (.iload_n 2, 1) := by decide +kernel
theorem dX6_close_47 : decode cX6_close 47 = .ok (.if_icmp .ne 6, 3) := by decide +kernel
theorem dX6_close_50 : decode cX6_close 50 = .ok (.iload 4, 2) := by decide +kernel
theorem dX6_close_52 : decode cX6_close 52 = .ok (.ireturn, 1) := by decide +kernel
theorem dX6_close_53 : decode cX6_close 53 = .ok (.iinc 3 1, 3) := by decide +kernel
theorem dX6_close_56 : decode cX6_close 56 = .ok (.iinc 4 1, 3) := by decide +kernel
theorem dX6_close_59 : decode cX6_close 59 = .ok (.goto (-33), 3) := by decide +kernel
theorem dX6_close_62 : decode cX6_close 62 = .ok (.iload_n 2, 1) := by decide +kernel
theorem dX6_close_63 : decode cX6_close 63 = .ok (.ifCond .ge 7, 3) := by decide +kernel
theorem dX6_close_66 : decode cX6_close 66 = .ok (.iload_n 3, 1) := by decide +kernel
theorem dX6_close_67 : decode cX6_close 67 = .ok (.goto 5, 3) := by decide +kernel
theorem dX6_close_70 : decode cX6_close 70 = .ok (.bipush (-9), 2) := by decide +kernel
theorem dX6_close_72 : decode cX6_close 72 = .ok (.ireturn, 1) := by decide +kernel
theorem dX6_bits_0 : decode cX6_bits 0 = .ok (.iload_n 1, 1) := by decide +kernel
theorem dX6_bits_1 : decode cX6_bits 1 = .ok (.iload_n 2, 1) := by decide +kernel
theorem dX6_bits_2 : decode cX6_bits 2 = .ok (.iload_n 3, 1) := by decide +kernel
theorem dX6_bits_3 : decode cX6_bits 3 = .ok (.iload 4, 2) := by decide +kernel
theorem dX6_bits_5 : decode cX6_bits 5 = .ok (.invokestatic 137, 3) := by decide +kernel
theorem dX6_bits_8 : decode cX6_bits 8 = .ok (.ifCond .eq 17, 3) := by decide +kernel
theorem dX6_bits_11 : decode cX6_bits 11 = .ok (.iload_n 1, 1) := by decide +kernel
theorem dX6_bits_12 : decode cX6_bits 12 = .ok (.iload_n 2, 1) := by decide +kernel
theorem dX6_bits_13 : decode cX6_bits 13 = .ok (.iload_n 3, 1) := by decide +kernel
theorem dX6_bits_14 : decode cX6_bits 14 = .ok (.iload 4, 2) := by decide +kernel
theorem dX6_bits_16 : decode cX6_bits 16 = .ok (.invokestatic 141, 3) := by decide +kernel
theorem dX6_bits_19 : decode cX6_bits 19 = .ok (.invokestatic 85, 3) := by decide +kernel
theorem dX6_bits_22 : decode cX6_bits 22 = .ok (.goto 4, 3) := by decide +kernel
theorem dX6_bits_25 : decode cX6_bits 25 = .ok (.iconst (-1), 1) := by decide +kernel
theorem dX6_bits_26 : decode cX6_bits 26 = .ok (.ireturn, 1) := by decide +kernel
theorem dX6_apart_0 : decode cX6_apart 0 = .ok (.aload_n 0, 1) := by decide +kernel
theorem dX6_apart_1 : decode cX6_apart 1 = .ok (.invokevirtual 109, 3) := by decide +kernel
theorem dX6_apart_4 : decode cX6_apart 4 = .ok (.aload_n 0, 1) := by decide +kernel
theorem dX6_apart_5 : decode cX6_apart 5 = .ok (.getfield 79, 3) := by decide +kernel
theorem dX6_apart_8 : decode cX6_apart 8 = .ok (.ifCond .ne 6, 3) := by decide +kernel
theorem dX6_apart_11 : decode cX6_apart 11 = .ok (.ldc 144, 2) := by decide +kernel
theorem dX6_apart_13 : decode cX6_apart 13 = .ok (.ireturn, 1) := by decide +kernel
theorem dX6_apart_14 : decode cX6_apart 14 = .ok (.aload_n 0, 1) := by decide +kernel
theorem dX6_apart_15 : decode cX6_apart 15 = .ok (.getfield 7, 3) := by decide +kernel
theorem dX6_apart_18 : decode cX6_apart 18 = .ok (.iconst 3, 1) := by decide +kernel
theorem dX6_apart_19 : decode cX6_apart 19 = .ok (.iaload, 1) := by decide +kernel
theorem dX6_apart_20 : decode cX6_apart 20 = .ok (.bipush 8, 2) := by decide +kernel
theorem dX6_apart_22 : decode cX6_apart 22 = .ok (.idiv, 1) := by decide +kernel
theorem dX6_apart_23 : decode cX6_apart 23 = .ok (.aload_n 0, 1) := by decide +kernel
theorem dX6_apart_24 : decode cX6_apart 24 = .ok (.invokevirtual 116, 3) := by decide +kernel
theorem dX6_apart_27 : decode cX6_apart 27 = .ok (.bipush 8, 2) := by decide +kernel
theorem dX6_apart_29 : decode cX6_apart 29 = .ok (.idiv, 1) := by decide +kernel
theorem dX6_apart_30 : decode cX6_apart 30 = .ok (.isub, 1) := by decide +kernel
theorem dX6_apart_31 : decode cX6_apart 31 = .ok (.sipush 1440, 3) := by decide +kernel
theorem dX6_apart_34 : decode cX6_apart 34 = .ok (.iadd, 1) := by decide +kernel
theorem dX6_apart_35 : decode cX6_apart 35 = .ok (.sipush 1440, 3) := by decide +kernel
theorem dX6_apart_38 : decode cX6_apart 38 = .ok (.irem, 1) := by decide +kernel
theorem dX6_apart_39 : decode cX6_apart 39 = .ok (.istore_n 1, 1) := by decide +kernel
theorem dX6_apart_40 : decode cX6_apart 40 = .ok (.iload_n 1, 1) := by decide +kernel
theorem dX6_apart_41 : decode cX6_apart 41 = .ok (.sipush 720, 3) := by decide +kernel
theorem dX6_apart_44 : decode cX6_apart 44 = .ok (.if_icmp .le 11, 3) := by decide +kernel
theorem dX6_apart_47 : decode cX6_apart 47 = .ok (.iload_n 1, 1) := by decide +kernel
theorem dX6_apart_48 : decode cX6_apart 48 = .ok (.sipush 1440, 3) := by decide +kernel
theorem dX6_apart_51 : decode cX6_apart 51 = .ok (.isub, 1) := by decide +kernel
theorem dX6_apart_52 : decode cX6_apart 52 = .ok (.goto 4, 3) := by decide +kernel
theorem dX6_apart_55 : decode cX6_apart 55 = .ok (.iload_n 1, 1) := by decide +kernel
theorem dX6_apart_56 : decode cX6_apart 56 = .ok (.ireturn, 1) := by decide +kernel
theorem dX6_clock_0 : decode cX6_clock 0 = .ok (.iload_n 1, 1) := by decide +kernel
theorem dX6_clock_1 : decode cX6_clock 1 = .ok (.iconst 0, 1) := by decide +kernel
theorem dX6_clock_2 : decode cX6_clock 2 = .ok (.bipush 7, 2) := by decide +kernel
theorem dX6_clock_4 : decode cX6_clock 4 = .ok (.invokestatic 47, 3) := by decide +kernel
theorem dX6_clock_7 : decode cX6_clock 7 = .ok (.ifCond .eq 14, 3) := by decide +kernel
theorem dX6_clock_10 : decode cX6_clock 10 = .ok (.aload_n 0, 1) := by decide +kernel
theorem dX6_clock_11 : decode cX6_clock 11 = .ok (.getfield 7, 3) := by decide +kernel
theorem dX6_clock_14 : decode cX6_clock 14 = .ok (.iconst 3, 1) := by decide +kernel
theorem dX6_clock_15 : decode cX6_clock 15 = .ok (.iaload, 1) := by decide +kernel
theorem dX6_clock_16 : decode cX6_clock 16 = .ok (.bipush (-9), 2) := by decide +kernel
theorem dX6_clock_18 : decode cX6_clock 18 = .ok (.if_icmp .ne 6, 3) := by decide +kernel
theorem dX6_clock_21 : decode cX6_clock 21 = .ok (.ldc 144, 2) := by decide +kernel
theorem dX6_clock_23 : decode cX6_clock 23 = .ok (.ireturn, 1) := by decide +kernel
theorem dX6_clock_24 : decode cX6_clock 24 = .ok (.aload_n 0, 1) := by decide +kernel
theorem dX6_clock_25 : decode cX6_clock 25 = .ok (.getfield 7, 3) := by decide +kernel
theorem dX6_clock_28 : decode cX6_clock 28 = .ok (.iconst 2, 1) := by decide +kernel
theorem dX6_clock_29 : decode cX6_clock 29 = .ok (.iaload, 1) := by decide +kernel
theorem dX6_clock_30 : decode cX6_clock 30 = .ok (.aload_n 0, 1) := by decide +kernel
theorem dX6_clock_31 : decode cX6_clock 31 = .ok (.getfield 7, 3) := by decide +kernel
theorem dX6_clock_34 : decode cX6_clock 34 = .ok (.iconst 4, 1) := by decide +kernel
theorem dX6_clock_35 : decode cX6_clock 35 = .ok (.iaload, 1) := by decide +kernel
theorem dX6_clock_36 : decode cX6_clock 36 = .ok (.imul, 1) := by decide +kernel
theorem dX6_clock_37 : decode cX6_clock 37 = .ok (.istore_n 2, 1) := by decide +kernel
theorem dX6_clock_38 : decode cX6_clock 38 = .ok (.iload_n 1, 1) := by decide +kernel
theorem dX6_clock_39 : decode cX6_clock 39 = .ok (.tableswitch 56 4 7 #[29, 36, 38, 51], 29) := by decide +kernel
theorem dX6_clock_68 : decode cX6_clock 68 = .ok (.aload_n 0, 1) := by decide +kernel
theorem dX6_clock_69 : decode cX6_clock 69 = .ok (.getfield 7, 3) := by decide +kernel
theorem dX6_clock_72 : decode cX6_clock 72 = .ok (.iconst 4, 1) := by decide +kernel
theorem dX6_clock_73 : decode cX6_clock 73 = .ok (.iaload, 1) := by decide +kernel
theorem dX6_clock_74 : decode cX6_clock 74 = .ok (.ireturn, 1) := by decide +kernel
theorem dX6_clock_75 : decode cX6_clock 75 = .ok (.iload_n 2, 1) := by decide +kernel
theorem dX6_clock_76 : decode cX6_clock 76 = .ok (.ireturn, 1) := by decide +kernel
theorem dX6_clock_77 : decode cX6_clock 77 = .ok (.iload_n 2, 1) := by decide +kernel
theorem dX6_clock_78 : decode cX6_clock 78 = .ok (.sipush 500, 3) := by decide +kernel
theorem dX6_clock_81 : decode cX6_clock 81 = .ok (.if_icmp .le 7, 3) := by decide +kernel
theorem dX6_clock_84 : decode cX6_clock 84 = .ok (.iconst 1, 1) := by decide +kernel
theorem dX6_clock_85 : decode cX6_clock 85 = .ok (.goto 4, 3) := by decide +kernel
theorem dX6_clock_88 : decode cX6_clock 88 = .ok (.iconst 0, 1) := by decide +kernel
theorem dX6_clock_89 : decode cX6_clock 89 = .ok (.ireturn, 1) := by decide +kernel
theorem dX6_clock_90 : decode cX6_clock 90 = .ok (.aload_n 0, 1) := by decide +kernel
theorem dX6_clock_91 : decode cX6_clock 91 = .ok (.invokevirtual 145, 3) := by decide +kernel
theorem dX6_clock_94 : decode cX6_clock 94 = .ok (.ireturn, 1) := by decide +kernel
theorem dX6_clock_95 : decode cX6_clock 95 = .ok (.aload_n 0, 1) := by decide +kernel
theorem dX6_clock_96 : decode cX6_clock 96 = .ok (.getfield 7, 3) := by decide +kernel
theorem dX6_clock_99 : decode cX6_clock 99 = .ok (.iconst 3, 1) := by decide +kernel
theorem dX6_clock_100 : decode cX6_clock 100 = .ok (.iaload, 1) := by decide +kernel
theorem dX6_clock_101 : decode cX6_clock 101 = .ok (.iload_n 1, 1) := by decide +kernel
theorem dX6_clock_102 : decode cX6_clock 102 = .ok (.invokestatic 134, 3) := by decide +kernel
theorem dX6_clock_105 : decode cX6_clock 105 = .ok (.ireturn, 1) := by decide +kernel
theorem dX6_keep_0 : decode cX6_keep 0 = .ok (.iload_n 1, 1) := by decide +kernel
theorem dX6_keep_1 : decode cX6_keep 1 = .ok (.iconst 0, 1) := by decide +kernel
theorem dX6_keep_2 : decode cX6_keep 2 = .ok (.iconst 1, 1) := by decide +kernel
theorem dX6_keep_3 : decode cX6_keep 3 = .ok (.invokestatic 47, 3) := by decide +kernel
theorem dX6_keep_6 : decode cX6_keep 6 = .ok (.ifCond .ne 5, 3) := by decide +kernel
theorem dX6_keep_9 : decode cX6_keep 9 = .ok (.iconst (-1), 1) := by decide +kernel
theorem dX6_keep_10 : decode cX6_keep 10 = .ok (.ireturn, 1) := by decide +kernel
theorem dX6_keep_11 : decode cX6_keep 11 = .ok (.aload_n 0, 1) := by decide +kernel
theorem dX6_keep_12 : decode cX6_keep 12 = .ok (.getfield 16, 3) := by decide +kernel
theorem dX6_keep_15 : decode cX6_keep 15 = .ok (.iload_n 1, 1) := by decide +kernel
theorem dX6_keep_16 : decode cX6_keep 16 = .ok (.iconst 1, 1) := by decide +kernel
theorem dX6_keep_17 : decode cX6_keep 17 = .ok (.bastore, 1) := by decide +kernel
theorem dX6_keep_18 : decode cX6_keep 18 = .ok (.iconst 0, 1) := by decide +kernel
theorem dX6_keep_19 : decode cX6_keep 19 = .ok (.istore_n 2, 1) := by decide +kernel
theorem dX6_keep_20 : decode cX6_keep 20 = .ok (.iload_n 2, 1) := by decide +kernel
theorem dX6_keep_21 : decode cX6_keep 21 = .ok (.bipush 126, 2) := by decide +kernel
theorem dX6_keep_23 : decode cX6_keep 23 = .ok (.if_icmp .ge 26, 3) := by decide +kernel
theorem dX6_keep_26 : decode cX6_keep 26 = .ok (.aload_n 0, 1) := by decide +kernel
theorem dX6_keep_27 : decode cX6_keep 27 = .ok (.getfield 20, 3) := by decide +kernel
theorem dX6_keep_30 : decode cX6_keep 30 = .ok (.bipush 126, 2) := by decide +kernel
theorem dX6_keep_32 : decode cX6_keep 32 = .ok (.iload_n 1, 1) := by decide +kernel
theorem dX6_keep_33 : decode cX6_keep 33 = .ok (.imul, 1) := by decide +kernel
theorem dX6_keep_34 : decode cX6_keep 34 = .ok (.iload_n 2, 1) := by decide +kernel
theorem dX6_keep_35 : decode cX6_keep 35 = .ok (.iadd, 1) := by decide +kernel
theorem dX6_keep_36 : decode cX6_keep 36 = .ok (.aload_n 0, 1) := by decide +kernel
theorem dX6_keep_37 : decode cX6_keep 37 = .ok (.getfield 7, 3) := by decide +kernel
theorem dX6_keep_40 : decode cX6_keep 40 = .ok (.iload_n 2, 1) := by decide +kernel
theorem dX6_keep_41 : decode cX6_keep 41 = .ok (.iaload, 1) := by decide +kernel
theorem dX6_keep_42 : decode cX6_keep 42 = .ok (.iastore, 1) := by decide +kernel
theorem dX6_keep_43 : decode cX6_keep 43 = .ok (.iinc 2 1, 3) := by decide +kernel
theorem dX6_keep_46 : decode cX6_keep 46 = .ok (.goto (-26), 3) := by decide +kernel
theorem dX6_keep_49 : decode cX6_keep 49 = .ok (.aload_n 0, 1) := by decide +kernel
theorem dX6_keep_50 : decode cX6_keep 50 = .ok (.getfield 7, 3) := by decide +kernel
theorem dX6_keep_53 : decode cX6_keep 53 = .ok (.iconst 0, 1) := by decide +kernel
theorem dX6_keep_54 : decode cX6_keep 54 = .ok (.iaload, 1) := by decide +kernel
theorem dX6_keep_55 : decode cX6_keep 55 = .ok (.ireturn, 1) := by decide +kernel
theorem dX6_back_0 : decode cX6_back 0 = .ok (.iload_n 1, 1) := by decide +kernel
theorem dX6_back_1 : decode cX6_back 1 = .ok (.iconst 0, 1) := by decide +kernel
theorem dX6_back_2 : decode cX6_back 2 = .ok (.iconst 1, 1) := by decide +kernel
theorem dX6_back_3 : decode cX6_back 3 = .ok (.invokestatic 47, 3) := by decide +kernel
theorem dX6_back_6 : decode cX6_back 6 = .ok (.ifCond .ne 5, 3) := by decide +kernel
theorem dX6_back_9 : decode cX6_back 9 = .ok (.iconst (-1), 1) := by decide +kernel
theorem dX6_back_10 : decode cX6_back 10 = .ok (.ireturn, 1) := by decide +kernel
theorem dX6_back_11 : decode cX6_back 11 = .ok (.aload_n 0, 1) := by decide +kernel
theorem dX6_back_12 : decode cX6_back 12 = .ok (.getfield 16, 3) := by decide +kernel
theorem dX6_back_15 : decode cX6_back 15 = .ok (.iload_n 1, 1) := by decide +kernel
theorem dX6_back_16 : decode cX6_back 16 = .ok (.baload, 1) := by decide +kernel
theorem dX6_back_17 : decode cX6_back 17 = .ok (.ifCond .ne 6, 3) := by decide +kernel
theorem dX6_back_20 : decode cX6_back 20 = .ok (.bipush (-2), 2) := by decide +kernel
theorem dX6_back_22 : decode cX6_back 22 = .ok (.ireturn, 1) := by decide +kernel
theorem dX6_back_23 : decode cX6_back 23 = .ok (.iconst 0, 1) := by decide +kernel
theorem dX6_back_24 : decode cX6_back 24 = .ok (.istore_n 2, 1) := by decide +kernel
theorem dX6_back_25 : decode cX6_back 25 = .ok (.iload_n 2, 1) := by decide +kernel
theorem dX6_back_26 : decode cX6_back 26 = .ok (.bipush 126, 2) := by decide +kernel
theorem dX6_back_28 : decode cX6_back 28 = .ok (.if_icmp .ge 26, 3) := by decide +kernel
theorem dX6_back_31 : decode cX6_back 31 = .ok (.aload_n 0, 1) := by decide +kernel
theorem dX6_back_32 : decode cX6_back 32 = .ok (.getfield 7, 3) := by decide +kernel
theorem dX6_back_35 : decode cX6_back 35 = .ok (.iload_n 2, 1) := by decide +kernel
theorem dX6_back_36 : decode cX6_back 36 = .ok (.aload_n 0, 1) := by decide +kernel
theorem dX6_back_37 : decode cX6_back 37 = .ok (.getfield 20, 3) := by decide +kernel
theorem dX6_back_40 : decode cX6_back 40 = .ok (.bipush 126, 2) := by decide +kernel
theorem dX6_back_42 : decode cX6_back 42 = .ok (.iload_n 1, 1) := by decide +kernel
theorem dX6_back_43 : decode cX6_back 43 = .ok (.imul, 1) := by decide +kernel
theorem dX6_back_44 : decode cX6_back 44 = .ok (.iload_n 2, 1) := by decide +kernel
theorem dX6_back_45 : decode cX6_back 45 = .ok (.iadd, 1) := by decide +kernel
theorem dX6_back_46 : decode cX6_back 46 = .ok (.iaload, 1) := by decide +kernel
theorem dX6_back_47 : decode cX6_back 47 = .ok (.iastore, 1) := by decide +kernel
theorem dX6_back_48 : decode cX6_back 48 = .ok (.iinc 2 1, 3) := by decide +kernel
theorem dX6_back_51 : decode cX6_back 51 = .ok (.goto (-26), 3) := by decide +kernel
theorem dX6_back_54 : decode cX6_back 54 = .ok (.aload_n 0, 1) := by decide +kernel
theorem dX6_back_55 : decode cX6_back 55 = .ok (.iconst 0, 1) := by decide +kernel
theorem dX6_back_56 : decode cX6_back 56 = .ok (.putfield 55, 3) := by decide +kernel
theorem dX6_back_59 : decode cX6_back 59 = .ok (.aload_n 0, 1) := by decide +kernel
theorem dX6_back_60 : decode cX6_back 60 = .ok (.iconst 0, 1) := by decide +kernel
theorem dX6_back_61 : decode cX6_back 61 = .ok (.putfield 58, 3) := by decide +kernel
theorem dX6_back_64 : decode cX6_back 64 = .ok (.aload_n 0, 1) := by decide +kernel
theorem dX6_back_65 : decode cX6_back 65 = .ok (.getfield 7, 3) := by decide +kernel
theorem dX6_back_68 : decode cX6_back 68 = .ok (.iconst 0, 1) := by decide +kernel
theorem dX6_back_69 : decode cX6_back 69 = .ok (.iaload, 1) := by decide +kernel
theorem dX6_back_70 : decode cX6_back 70 = .ok (.ireturn, 1) := by decide +kernel
theorem dX6_count_0 : decode cX6_count 0 = .ok (.aload_n 0, 1) := by decide +kernel
theorem dX6_count_1 : decode cX6_count 1 = .ok (.invokevirtual 109, 3) := by decide +kernel
theorem dX6_count_4 : decode cX6_count 4 = .ok (.iload_n 1, 1) := by decide +kernel
theorem dX6_count_5 : decode cX6_count 5 = .ok (.tableswitch 96 0 6 #[43, 50, 55, 60, 67, 74, 91], 43) := by decide +kernel
theorem dX6_count_48 : decode cX6_count 48 = .ok (.aload_n 0, 1) := by decide +kernel
theorem dX6_count_49 : decode cX6_count 49 = .ok (.getfield 7, 3) := by decide +kernel
theorem dX6_count_52 : decode cX6_count 52 = .ok (.iconst 0, 1) := by decide +kernel
theorem dX6_count_53 : decode cX6_count 53 = .ok (.iaload, 1) := by decide +kernel
theorem dX6_count_54 : decode cX6_count 54 = .ok (.ireturn, 1) := by decide +kernel
theorem dX6_count_55 : decode cX6_count 55 = .ok (.aload_n 0, 1) := by decide +kernel
theorem dX6_count_56 : decode cX6_count 56 = .ok (.getfield 76, 3) := by decide +kernel
theorem dX6_count_59 : decode cX6_count 59 = .ok (.ireturn, 1) := by decide +kernel
theorem dX6_count_60 : decode cX6_count 60 = .ok (.aload_n 0, 1) := by decide +kernel
theorem dX6_count_61 : decode cX6_count 61 = .ok (.getfield 79, 3) := by decide +kernel
theorem dX6_count_64 : decode cX6_count 64 = .ok (.ireturn, 1) := by decide +kernel
theorem dX6_count_65 : decode cX6_count 65 = .ok (.aload_n 0, 1) := by decide +kernel
theorem dX6_count_66 : decode cX6_count 66 = .ok (.getfield 7, 3) := by decide +kernel
theorem dX6_count_69 : decode cX6_count 69 = .ok (.iconst 1, 1) := by decide +kernel
theorem dX6_count_70 : decode cX6_count 70 = .ok (.iaload, 1) := by decide +kernel
theorem dX6_count_71 : decode cX6_count 71 = .ok (.ireturn, 1) := by decide +kernel
theorem dX6_count_72 : decode cX6_count 72 = .ok (.aload_n 0, 1) := by decide +kernel
theorem dX6_count_73 : decode cX6_count 73 = .ok (.getfield 7, 3) := by decide +kernel
theorem dX6_count_76 : decode cX6_count 76 = .ok (.iconst 2, 1) := by decide +kernel
theorem dX6_count_77 : decode cX6_count 77 = .ok (.iaload, 1) := by decide +kernel
theorem dX6_count_78 : decode cX6_count 78 = .ok (.ireturn, 1) := by decide +kernel
theorem dX6_count_79 : decode cX6_count 79 = .ok (.aload_n 0, 1) := by decide +kernel
theorem dX6_count_80 : decode cX6_count 80 = .ok (.getfield 7, 3) := by decide +kernel
theorem dX6_count_83 : decode cX6_count 83 = .ok (.iconst 3, 1) := by decide +kernel
theorem dX6_count_84 : decode cX6_count 84 = .ok (.iaload, 1) := by decide +kernel
theorem dX6_count_85 : decode cX6_count 85 = .ok (.bipush (-9), 2) := by decide +kernel
theorem dX6_count_87 : decode cX6_count 87 = .ok (.if_icmp .ne 7, 3) := by decide +kernel
theorem dX6_count_90 : decode cX6_count 90 = .ok (.iconst 0, 1) := by decide +kernel
theorem dX6_count_91 : decode cX6_count 91 = .ok (.goto 4, 3) := by decide +kernel
theorem dX6_count_94 : decode cX6_count 94 = .ok (.iconst 1, 1) := by decide +kernel
theorem dX6_count_95 : decode cX6_count 95 = .ok (.ireturn, 1) := by decide +kernel
theorem dX6_count_96 : decode cX6_count 96 = .ok (.aload_n 0, 1) := by decide +kernel
theorem dX6_count_97 : decode cX6_count 97 = .ok (.getfield 55, 3) := by decide +kernel
theorem dX6_count_100 : decode cX6_count 100 = .ok (.ireturn, 1) := by decide +kernel
theorem dX6_count_101 : decode cX6_count 101 = .ok (.iconst (-1), 1) := by decide +kernel
theorem dX6_count_102 : decode cX6_count 102 = .ok (.ireturn, 1) := by decide +kernel
