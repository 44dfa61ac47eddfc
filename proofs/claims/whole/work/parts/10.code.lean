theorem dX0_init_0 : decode yX0_init.2.1 0 = .ok (.aload_n 0, 1) := by decide +kernel
theorem dX0_init_1 : decode yX0_init.2.1 1 = .ok (.invokespecial 3, 3) := by decide +kernel
theorem dX0_init_4 : decode yX0_init.2.1 4 = .ok (.aload_n 0, 1) := by decide +kernel
theorem dX0_init_5 : decode yX0_init.2.1 5 = .ok (.bipush 41, 2) := by decide +kernel
theorem dX0_init_7 : decode yX0_init.2.1 7 = .ok (.newarray .int, 2) := by decide +kernel
theorem dX0_init_9 : decode yX0_init.2.1 9 = .ok (.putfield 9, 3) := by decide +kernel
theorem dX0_init_12 : decode yX0_init.2.1 12 = .ok (.aload_n 0, 1) := by decide +kernel
theorem dX0_init_13 : decode yX0_init.2.1 13 = .ok (.bipush 41, 2) := by decide +kernel
theorem dX0_init_15 : decode yX0_init.2.1 15 = .ok (.newarray .long, 2) := by decide +kernel
theorem dX0_init_17 : decode yX0_init.2.1 17 = .ok (.putfield 15, 3) := by decide +kernel
theorem dX0_init_20 : decode yX0_init.2.1 20 = .ok (.aload_n 0, 1) := by decide +kernel
theorem dX0_init_21 : decode yX0_init.2.1 21 = .ok (.new 19, 3) := by decide +kernel
theorem dX0_init_24 : decode yX0_init.2.1 24 = .ok (.dup, 1) := by decide +kernel
theorem dX0_init_25 : decode yX0_init.2.1 25 = .ok (.invokespecial 21, 3) := by decide +kernel
theorem dX0_init_28 : decode yX0_init.2.1 28 = .ok (.putfield 22, 3) := by decide +kernel
theorem dX0_init_31 : decode yX0_init.2.1 31 = .ok (.return_, 1) := by decide +kernel
theorem dX0_read_0 : decode yX0_read.2.1 0 = .ok (.iconst 1, 1) := by decide +kernel
theorem dX0_read_1 : decode yX0_read.2.1 1 = .ok (.iload_n 2, 1) := by decide +kernel
theorem dX0_read_2 : decode yX0_read.2.1 2 = .ok (.ishl, 1) := by decide +kernel
theorem dX0_read_3 : decode yX0_read.2.1 3 = .ok (.iconst 1, 1) := by decide +kernel
theorem dX0_read_4 : decode yX0_read.2.1 4 = .ok (.isub, 1) := by decide +kernel
theorem dX0_read_5 : decode yX0_read.2.1 5 = .ok (.istore_n 3, 1) := by decide +kernel
theorem dX0_read_6 : decode yX0_read.2.1 6 = .ok (.iconst 0, 1) := by decide +kernel
theorem dX0_read_7 : decode yX0_read.2.1 7 = .ok (.istore 4, 2) := by decide +kernel
theorem dX0_read_9 : decode yX0_read.2.1 9 = .ok (.aload_n 0, 1) := by decide +kernel
theorem dX0_read_10 : decode yX0_read.2.1 10 = .ok (.iconst 0, 1) := by decide +kernel
theorem dX0_read_11 : decode yX0_read.2.1 11 = .ok (.putfield 26, 3) := by decide +kernel
theorem dX0_read_14 : decode yX0_read.2.1 14 = .ok (.aload_n 0, 1) := by decide +kernel
theorem dX0_read_15 : decode yX0_read.2.1 15 = .ok (.iconst 0, 1) := by decide +kernel
theorem dX0_read_16 : decode yX0_read.2.1 16 = .ok (.putfield 30, 3) := by decide +kernel
theorem dX0_read_19 : decode yX0_read.2.1 19 = .ok (.iconst 0, 1) := by decide +kernel
theorem dX0_read_20 : decode yX0_read.2.1 20 = .ok (.istore 5, 2) := by decide +kernel
theorem dX0_read_22 : decode yX0_read.2.1 22 = .ok (.iload 5, 2) := by decide +kernel
theorem dX0_read_24 : decode yX0_read.2.1 24 = .ok (.aload_n 1, 1) := by decide +kernel
theorem dX0_read_25 : decode yX0_read.2.1 25 = .ok (.getfield 33, 3) := by decide +kernel
theorem dX0_read_28 : decode yX0_read.2.1 28 = .ok (.if_icmp .ge 57, 3) := by decide +kernel
theorem dX0_read_31 : decode yX0_read.2.1 31 = .ok (.iload 4, 2) := by decide +kernel
theorem dX0_read_33 : decode yX0_read.2.1 33 = .ok (.iconst 1, 1) := by decide +kernel
theorem dX0_read_34 : decode yX0_read.2.1 34 = .ok (.aload_n 1, 1) := by decide +kernel
theorem dX0_read_35 : decode yX0_read.2.1 35 = .ok (.getfield 38, 3) := by decide +kernel
theorem dX0_read_38 : decode yX0_read.2.1 38 = .ok (.iload 5, 2) := by decide +kernel
theorem dX0_read_40 : decode yX0_read.2.1 40 = .ok (.iaload, 1) := by decide +kernel
theorem dX0_read_41 : decode yX0_read.2.1 41 = .ok (.ishl, 1) := by decide +kernel
theorem dX0_read_42 : decode yX0_read.2.1 42 = .ok (.ior, 1) := by decide +kernel
theorem dX0_read_43 : decode yX0_read.2.1 43 = .ok (.istore 4, 2) := by decide +kernel
theorem dX0_read_45 : decode yX0_read.2.1 45 = .ok (.aload_n 0, 1) := by decide +kernel
theorem dX0_read_46 : decode yX0_read.2.1 46 = .ok (.dup, 1) := by decide +kernel
theorem dX0_read_47 : decode yX0_read.2.1 47 = .ok (.getfield 30, 3) := by decide +kernel
theorem dX0_read_50 : decode yX0_read.2.1 50 = .ok (.iconst 1, 1) := by decide +kernel
theorem dX0_read_51 : decode yX0_read.2.1 51 = .ok (.iadd, 1) := by decide +kernel
theorem dX0_read_52 : decode yX0_read.2.1 52 = .ok (.putfield 30, 3) := by decide +kernel
theorem dX0_read_55 : decode yX0_read.2.1 55 = .ok (.iload 4, 2) := by decide +kernel
theorem dX0_read_57 : decode yX0_read.2.1 57 = .ok (.iload_n 3, 1) := by decide +kernel
theorem dX0_read_58 : decode yX0_read.2.1 58 = .ok (.if_icmp .ne 21, 3) := by decide +kernel
theorem dX0_read_61 : decode yX0_read.2.1 61 = .ok (.aload_n 0, 1) := by decide +kernel
theorem dX0_read_62 : decode yX0_read.2.1 62 = .ok (.dup, 1) := by decide +kernel
theorem dX0_read_63 : decode yX0_read.2.1 63 = .ok (.getfield 26, 3) := by decide +kernel
theorem dX0_read_66 : decode yX0_read.2.1 66 = .ok (.iconst 1, 1) := by decide +kernel
theorem dX0_read_67 : decode yX0_read.2.1 67 = .ok (.iadd, 1) := by decide +kernel
theorem dX0_read_68 : decode yX0_read.2.1 68 = .ok (.putfield 26, 3) := by decide +kernel
theorem dX0_read_71 : decode yX0_read.2.1 71 = .ok (.aload_n 0, 1) := by decide +kernel
theorem dX0_read_72 : decode yX0_read.2.1 72 = .ok (.iconst 0, 1) := by decide +kernel
theorem dX0_read_73 : decode yX0_read.2.1 73 = .ok (.putfield 30, 3) := by decide +kernel
theorem dX0_read_76 : decode yX0_read.2.1 76 = .ok (.iconst 0, 1) := by decide +kernel
theorem dX0_read_77 : decode yX0_read.2.1 77 = .ok (.istore 4, 2) := by decide +kernel
theorem dX0_read_79 : decode yX0_read.2.1 79 = .ok (.iinc 5 1, 3) := by decide +kernel
theorem dX0_read_82 : decode yX0_read.2.1 82 = .ok (.goto (-60), 3) := by decide +kernel
theorem dX0_read_85 : decode yX0_read.2.1 85 = .ok (.aload_n 0, 1) := by decide +kernel
theorem dX0_read_86 : decode yX0_read.2.1 86 = .ok (.iload 4, 2) := by decide +kernel
theorem dX0_read_88 : decode yX0_read.2.1 88 = .ok (.invokestatic 41, 3) := by decide +kernel
theorem dX0_read_91 : decode yX0_read.2.1 91 = .ok (.putfield 47, 3) := by decide +kernel
theorem dX0_read_94 : decode yX0_read.2.1 94 = .ok (.return_, 1) := by decide +kernel
theorem dX0_toClose_0 : decode yX0_toClose.2.1 0 = .ok (.iload_n 1, 1) := by decide +kernel
theorem dX0_toClose_1 : decode yX0_toClose.2.1 1 = .ok (.aload_n 0, 1) := by decide +kernel
theorem dX0_toClose_2 : decode yX0_toClose.2.1 2 = .ok (.getfield 26, 3) := by decide +kernel
theorem dX0_toClose_5 : decode yX0_toClose.2.1 5 = .ok (.if_icmp .gt 7, 3) := by decide +kernel
theorem dX0_toClose_8 : decode yX0_toClose.2.1 8 = .ok (.iconst 0, 1) := by decide +kernel
theorem dX0_toClose_9 : decode yX0_toClose.2.1 9 = .ok (.goto 16, 3) := by decide +kernel
theorem dX0_toClose_12 : decode yX0_toClose.2.1 12 = .ok (.iload_n 1, 1) := by decide +kernel
theorem dX0_toClose_13 : decode yX0_toClose.2.1 13 = .ok (.aload_n 0, 1) := by decide +kernel
theorem dX0_toClose_14 : decode yX0_toClose.2.1 14 = .ok (.getfield 26, 3) := by decide +kernel
theorem dX0_toClose_17 : decode yX0_toClose.2.1 17 = .ok (.isub, 1) := by decide +kernel
theorem dX0_toClose_18 : decode yX0_toClose.2.1 18 = .ok (.iload_n 2, 1) := by decide +kernel
theorem dX0_toClose_19 : decode yX0_toClose.2.1 19 = .ok (.imul, 1) := by decide +kernel
theorem dX0_toClose_20 : decode yX0_toClose.2.1 20 = .ok (.aload_n 0, 1) := by decide +kernel
theorem dX0_toClose_21 : decode yX0_toClose.2.1 21 = .ok (.getfield 47, 3) := by decide +kernel
theorem dX0_toClose_24 : decode yX0_toClose.2.1 24 = .ok (.isub, 1) := by decide +kernel
theorem dX0_toClose_25 : decode yX0_toClose.2.1 25 = .ok (.ireturn, 1) := by decide +kernel
theorem dX0_readAbsent_0 : decode yX0_readAbsent.2.1 0 = .ok (.aload_n 0, 1) := by decide +kernel
theorem dX0_readAbsent_1 : decode yX0_readAbsent.2.1 1 = .ok (.getfield 22, 3) := by decide +kernel
theorem dX0_readAbsent_4 : decode yX0_readAbsent.2.1 4 = .ok (.aload_n 1, 1) := by decide +kernel
theorem dX0_readAbsent_5 : decode yX0_readAbsent.2.1 5 = .ok (.invokevirtual 50, 3) := by decide +kernel
theorem dX0_readAbsent_8 : decode yX0_readAbsent.2.1 8 = .ok (.aload_n 1, 1) := by decide +kernel
theorem dX0_readAbsent_9 : decode yX0_readAbsent.2.1 9 = .ok (.getfield 33, 3) := by decide +kernel
theorem dX0_readAbsent_12 : decode yX0_readAbsent.2.1 12 = .ok (.istore_n 3, 1) := by decide +kernel
theorem dX0_readAbsent_13 : decode yX0_readAbsent.2.1 13 = .ok (.iload_n 3, 1) := by decide +kernel
theorem dX0_readAbsent_14 : decode yX0_readAbsent.2.1 14 = .ok (.ifCond .lt 118, 3) := by decide +kernel
theorem dX0_readAbsent_17 : decode yX0_readAbsent.2.1 17 = .ok (.bipush 42, 2) := by decide +kernel
theorem dX0_readAbsent_19 : decode yX0_readAbsent.2.1 19 = .ok (.istore 4, 2) := by decide +kernel
theorem dX0_readAbsent_21 : decode yX0_readAbsent.2.1 21 = .ok (.lconst 0, 1) := by decide +kernel
theorem dX0_readAbsent_22 : decode yX0_readAbsent.2.1 22 = .ok (.lstore 5, 2) := by decide +kernel
theorem dX0_readAbsent_24 : decode yX0_readAbsent.2.1 24 = .ok (.iconst 0, 1) := by decide +kernel
theorem dX0_readAbsent_25 : decode yX0_readAbsent.2.1 25 = .ok (.istore 7, 2) := by decide +kernel
theorem dX0_readAbsent_27 : decode yX0_readAbsent.2.1 27 = .ok (.iload 7, 2) := by decide +kernel
theorem dX0_readAbsent_29 : decode yX0_readAbsent.2.1 29 = .ok (.iload_n 2, 1) := by decide +kernel
theorem dX0_readAbsent_30 : decode yX0_readAbsent.2.1 30 = .ok (.if_icmp .ge 80, 3) := by decide +kernel
theorem dX0_readAbsent_33 : decode yX0_readAbsent.2.1 33 = .ok (.aload_n 0, 1) := by decide +kernel
theorem dX0_readAbsent_34 : decode yX0_readAbsent.2.1 34 = .ok (.iload_n 3, 1) := by decide +kernel
theorem dX0_readAbsent_35 : decode yX0_readAbsent.2.1 35 = .ok (.iload 7, 2) := by decide +kernel
theorem dX0_readAbsent_37 : decode yX0_readAbsent.2.1 37 = .ok (.invokevirtual 54, 3) := by decide +kernel
theorem dX0_readAbsent_40 : decode yX0_readAbsent.2.1 40 = .ok (.istore 8, 2) := by decide +kernel
theorem dX0_readAbsent_42 : decode yX0_readAbsent.2.1 42 = .ok (.aload_n 0, 1) := by decide +kernel
theorem dX0_readAbsent_43 : decode yX0_readAbsent.2.1 43 = .ok (.getfield 22, 3) := by decide +kernel
theorem dX0_readAbsent_46 : decode yX0_readAbsent.2.1 46 = .ok (.iload_n 3, 1) := by decide +kernel
theorem dX0_readAbsent_47 : decode yX0_readAbsent.2.1 47 = .ok (.iload 7, 2) := by decide +kernel
theorem dX0_readAbsent_49 : decode yX0_readAbsent.2.1 49 = .ok (.invokevirtual 58, 3) := by decide +kernel
theorem dX0_readAbsent_52 : decode yX0_readAbsent.2.1 52 = .ok (.istore 9, 2) := by decide +kernel
theorem dX0_readAbsent_54 : decode yX0_readAbsent.2.1 54 = .ok (.iload 9, 2) := by decide +kernel
theorem dX0_readAbsent_56 : decode yX0_readAbsent.2.1 56 = .ok (.ifCond .ne 7, 3) := by decide +kernel
theorem dX0_readAbsent_59 : decode yX0_readAbsent.2.1 59 = .ok (.lconst 1, 1) := by decide +kernel
theorem dX0_readAbsent_60 : decode yX0_readAbsent.2.1 60 = .ok (.goto 10, 3) := by decide +kernel
theorem dX0_readAbsent_63 : decode yX0_readAbsent.2.1 63 = .ok (.aload_n 0, 1) := by decide +kernel
theorem dX0_readAbsent_64 : decode yX0_readAbsent.2.1 64 = .ok (.getfield 15, 3) := by decide +kernel
theorem dX0_readAbsent_67 : decode yX0_readAbsent.2.1 67 = .ok (.iload 9, 2) := by decide +kernel
theorem dX0_readAbsent_69 : decode yX0_readAbsent.2.1 69 = .ok (.laload, 1) := by decide +kernel
theorem dX0_readAbsent_70 : decode yX0_readAbsent.2.1 70 = .ok (.lstore 10, 2) := by decide +kernel
theorem dX0_readAbsent_72 : decode yX0_readAbsent.2.1 72 = .ok (.iload 8, 2) := by decide +kernel
theorem dX0_readAbsent_74 : decode yX0_readAbsent.2.1 74 = .ok (.iload 4, 2) := by decide +kernel
theorem dX0_readAbsent_76 : decode yX0_readAbsent.2.1 76 = .ok (.if_icmp .ge 14, 3) := by decide +kernel
theorem dX0_readAbsent_79 : decode yX0_readAbsent.2.1 79 = .ok (.iload 8, 2) := by decide +kernel
theorem dX0_readAbsent_81 : decode yX0_readAbsent.2.1 81 = .ok (.istore 4, 2) := by decide +kernel
theorem dX0_readAbsent_83 : decode yX0_readAbsent.2.1 83 = .ok (.lload 10, 2) := by decide +kernel
theorem dX0_readAbsent_85 : decode yX0_readAbsent.2.1 85 = .ok (.lstore 5, 2) := by decide +kernel
theorem dX0_readAbsent_87 : decode yX0_readAbsent.2.1 87 = .ok (.goto 17, 3) := by decide +kernel
theorem dX0_readAbsent_90 : decode yX0_readAbsent.2.1 90 = .ok (.iload 8, 2) := by decide +kernel
theorem dX0_readAbsent_92 : decode yX0_readAbsent.2.1 92 = .ok (.iload 4, 2) := by decide +kernel
theorem dX0_readAbsent_94 : decode yX0_readAbsent.2.1 94 = .ok (.if_icmp .ne 10, 3) := by decide +kernel
theorem dX0_readAbsent_97 : decode yX0_readAbsent.2.1 97 = .ok (.lload 5, 2) := by decide +kernel
theorem dX0_readAbsent_99 : decode yX0_readAbsent.2.1 99 = .ok (.lload 10, 2) := by decide +kernel
theorem dX0_readAbsent_101 : decode yX0_readAbsent.2.1 101 = .ok (.ladd, 1) := by decide +kernel
theorem dX0_readAbsent_102 : decode yX0_readAbsent.2.1 102 = .ok (.lstore 5, 2) := by decide +kernel
theorem dX0_readAbsent_104 : decode yX0_readAbsent.2.1 104 = .ok (.iinc 7 1, 3) := by decide +kernel
theorem dX0_readAbsent_107 : decode yX0_readAbsent.2.1 107 = .ok (.goto (-80), 3) := by decide +kernel
theorem dX0_readAbsent_110 : decode yX0_readAbsent.2.1 110 = .ok (.aload_n 0, 1) := by decide +kernel
theorem dX0_readAbsent_111 : decode yX0_readAbsent.2.1 111 = .ok (.getfield 9, 3) := by decide +kernel
theorem dX0_readAbsent_114 : decode yX0_readAbsent.2.1 114 = .ok (.iload_n 3, 1) := by decide +kernel
theorem dX0_readAbsent_115 : decode yX0_readAbsent.2.1 115 = .ok (.iload 4, 2) := by decide +kernel
theorem dX0_readAbsent_117 : decode yX0_readAbsent.2.1 117 = .ok (.iastore, 1) := by decide +kernel
theorem dX0_readAbsent_118 : decode yX0_readAbsent.2.1 118 = .ok (.aload_n 0, 1) := by decide +kernel
theorem dX0_readAbsent_119 : decode yX0_readAbsent.2.1 119 = .ok (.getfield 15, 3) := by decide +kernel
theorem dX0_readAbsent_122 : decode yX0_readAbsent.2.1 122 = .ok (.iload_n 3, 1) := by decide +kernel
theorem dX0_readAbsent_123 : decode yX0_readAbsent.2.1 123 = .ok (.lload 5, 2) := by decide +kernel
theorem dX0_readAbsent_125 : decode yX0_readAbsent.2.1 125 = .ok (.lastore, 1) := by decide +kernel
theorem dX0_readAbsent_126 : decode yX0_readAbsent.2.1 126 = .ok (.iinc 3 (-1), 3) := by decide +kernel
theorem dX0_readAbsent_129 : decode yX0_readAbsent.2.1 129 = .ok (.goto (-116), 3) := by decide +kernel
theorem dX0_readAbsent_132 : decode yX0_readAbsent.2.1 132 = .ok (.return_, 1) := by decide +kernel
theorem dX0_absentFrom_0 : decode yX0_absentFrom.2.1 0 = .ok (.aload_n 0, 1) := by decide +kernel
theorem dX0_absentFrom_1 : decode yX0_absentFrom.2.1 1 = .ok (.getfield 22, 3) := by decide +kernel
theorem dX0_absentFrom_4 : decode yX0_absentFrom.2.1 4 = .ok (.iload_n 1, 1) := by decide +kernel
theorem dX0_absentFrom_5 : decode yX0_absentFrom.2.1 5 = .ok (.iload_n 2, 1) := by decide +kernel
theorem dX0_absentFrom_6 : decode yX0_absentFrom.2.1 6 = .ok (.invokevirtual 58, 3) := by decide +kernel
theorem dX0_absentFrom_9 : decode yX0_absentFrom.2.1 9 = .ok (.istore_n 3, 1) := by decide +kernel
theorem dX0_absentFrom_10 : decode yX0_absentFrom.2.1 10 = .ok (.iload_n 3, 1) := by decide +kernel
theorem dX0_absentFrom_11 : decode yX0_absentFrom.2.1 11 = .ok (.ifCond .ne 7, 3) := by decide +kernel
theorem dX0_absentFrom_14 : decode yX0_absentFrom.2.1 14 = .ok (.iconst 1, 1) := by decide +kernel
theorem dX0_absentFrom_15 : decode yX0_absentFrom.2.1 15 = .ok (.goto 11, 3) := by decide +kernel
theorem dX0_absentFrom_18 : decode yX0_absentFrom.2.1 18 = .ok (.iconst 1, 1) := by decide +kernel
theorem dX0_absentFrom_19 : decode yX0_absentFrom.2.1 19 = .ok (.aload_n 0, 1) := by decide +kernel
theorem dX0_absentFrom_20 : decode yX0_absentFrom.2.1 20 = .ok (.getfield 9, 3) := by decide +kernel
theorem dX0_absentFrom_23 : decode yX0_absentFrom.2.1 23 = .ok (.iload_n 3, 1) := by decide +kernel
theorem dX0_absentFrom_24 : decode yX0_absentFrom.2.1 24 = .ok (.iaload, 1) := by decide +kernel
theorem dX0_absentFrom_25 : decode yX0_absentFrom.2.1 25 = .ok (.iadd, 1) := by decide +kernel
theorem dX0_absentFrom_26 : decode yX0_absentFrom.2.1 26 = .ok (.ireturn, 1) := by decide +kernel
theorem dX0_firstAbsent_0 : decode yX0_firstAbsent.2.1 0 = .ok (.aload_n 0, 1) := by decide +kernel
theorem dX0_firstAbsent_1 : decode yX0_firstAbsent.2.1 1 = .ok (.getfield 9, 3) := by decide +kernel
theorem dX0_firstAbsent_4 : decode yX0_firstAbsent.2.1 4 = .ok (.iconst 0, 1) := by decide +kernel
theorem dX0_firstAbsent_5 : decode yX0_firstAbsent.2.1 5 = .ok (.iaload, 1) := by decide +kernel
theorem dX0_firstAbsent_6 : decode yX0_firstAbsent.2.1 6 = .ok (.bipush 40, 2) := by decide +kernel
theorem dX0_firstAbsent_8 : decode yX0_firstAbsent.2.1 8 = .ok (.invokestatic 61, 3) := by decide +kernel
theorem dX0_firstAbsent_11 : decode yX0_firstAbsent.2.1 11 = .ok (.istore_n 3, 1) := by decide +kernel
theorem dX0_firstAbsent_12 : decode yX0_firstAbsent.2.1 12 = .ok (.iconst 0, 1) := by decide +kernel
theorem dX0_firstAbsent_13 : decode yX0_firstAbsent.2.1 13 = .ok (.istore 4, 2) := by decide +kernel
theorem dX0_firstAbsent_15 : decode yX0_firstAbsent.2.1 15 = .ok (.iconst 0, 1) := by decide +kernel
theorem dX0_firstAbsent_16 : decode yX0_firstAbsent.2.1 16 = .ok (.istore 5, 2) := by decide +kernel
theorem dX0_firstAbsent_18 : decode yX0_firstAbsent.2.1 18 = .ok (.iload 5, 2) := by decide +kernel
theorem dX0_firstAbsent_20 : decode yX0_firstAbsent.2.1 20 = .ok (.iload_n 3, 1) := by decide +kernel
theorem dX0_firstAbsent_21 : decode yX0_firstAbsent.2.1 21 = .ok (.if_icmp .ge 63, 3) := by decide +kernel
theorem dX0_firstAbsent_24 : decode yX0_firstAbsent.2.1 24 = .ok (.iconst 0, 1) := by decide +kernel
theorem dX0_firstAbsent_25 : decode yX0_firstAbsent.2.1 25 = .ok (.istore 6, 2) := by decide +kernel
theorem dX0_firstAbsent_27 : decode yX0_firstAbsent.2.1 27 = .ok (.iload 6, 2) := by decide +kernel
theorem dX0_firstAbsent_29 : decode yX0_firstAbsent.2.1 29 = .ok (.iload_n 1, 1) := by decide +kernel
theorem dX0_firstAbsent_30 : decode yX0_firstAbsent.2.1 30 = .ok (.iconst 1, 1) := by decide +kernel
theorem dX0_firstAbsent_31 : decode yX0_firstAbsent.2.1 31 = .ok (.isub, 1) := by decide +kernel
theorem dX0_firstAbsent_32 : decode yX0_firstAbsent.2.1 32 = .ok (.if_icmp .ge 27, 3) := by decide +kernel
theorem dX0_firstAbsent_35 : decode yX0_firstAbsent.2.1 35 = .ok (.aload_n 0, 1) := by decide +kernel
theorem dX0_firstAbsent_36 : decode yX0_firstAbsent.2.1 36 = .ok (.iload 4, 2) := by decide +kernel
theorem dX0_firstAbsent_38 : decode yX0_firstAbsent.2.1 38 = .ok (.iload 6, 2) := by decide +kernel
theorem dX0_firstAbsent_40 : decode yX0_firstAbsent.2.1 40 = .ok (.invokevirtual 54, 3) := by decide +kernel
theorem dX0_firstAbsent_43 : decode yX0_firstAbsent.2.1 43 = .ok (.aload_n 0, 1) := by decide +kernel
theorem dX0_firstAbsent_44 : decode yX0_firstAbsent.2.1 44 = .ok (.getfield 9, 3) := by decide +kernel
theorem dX0_firstAbsent_47 : decode yX0_firstAbsent.2.1 47 = .ok (.iload 4, 2) := by decide +kernel
theorem dX0_firstAbsent_49 : decode yX0_firstAbsent.2.1 49 = .ok (.iaload, 1) := by decide +kernel
theorem dX0_firstAbsent_50 : decode yX0_firstAbsent.2.1 50 = .ok (.if_icmp .eq 9, 3) := by decide +kernel
theorem dX0_firstAbsent_53 : decode yX0_firstAbsent.2.1 53 = .ok (.iinc 6 1, 3) := by decide +kernel
theorem dX0_firstAbsent_56 : decode yX0_firstAbsent.2.1 56 = .ok (.goto (-29), 3) := by decide +kernel
theorem dX0_firstAbsent_59 : decode yX0_firstAbsent.2.1 59 = .ok (.aload_n 2, 1) := by decide +kernel
theorem dX0_firstAbsent_60 : decode yX0_firstAbsent.2.1 60 = .ok (.iload 5, 2) := by decide +kernel
theorem dX0_firstAbsent_62 : decode yX0_firstAbsent.2.1 62 = .ok (.iload 6, 2) := by decide +kernel
theorem dX0_firstAbsent_64 : decode yX0_firstAbsent.2.1 64 = .ok (.iastore, 1) := by decide +kernel
theorem dX0_firstAbsent_65 : decode yX0_firstAbsent.2.1 65 = .ok (.aload_n 0, 1) := by decide +kernel
theorem dX0_firstAbsent_66 : decode yX0_firstAbsent.2.1 66 = .ok (.getfield 22, 3) := by decide +kernel
theorem dX0_firstAbsent_69 : decode yX0_firstAbsent.2.1 69 = .ok (.iload 4, 2) := by decide +kernel
theorem dX0_firstAbsent_71 : decode yX0_firstAbsent.2.1 71 = .ok (.iload 6, 2) := by decide +kernel
theorem dX0_firstAbsent_73 : decode yX0_firstAbsent.2.1 73 = .ok (.invokevirtual 58, 3) := by decide +kernel
theorem dX0_firstAbsent_76 : decode yX0_firstAbsent.2.1 76 = .ok (.istore 4, 2) := by decide +kernel
theorem dX0_firstAbsent_78 : decode yX0_firstAbsent.2.1 78 = .ok (.iinc 5 1, 3) := by decide +kernel
theorem dX0_firstAbsent_81 : decode yX0_firstAbsent.2.1 81 = .ok (.goto (-63), 3) := by decide +kernel
theorem dX0_firstAbsent_84 : decode yX0_firstAbsent.2.1 84 = .ok (.iload_n 3, 1) := by decide +kernel
theorem dX0_firstAbsent_85 : decode yX0_firstAbsent.2.1 85 = .ok (.ireturn, 1) := by decide +kernel
theorem dX1_init_0 : decode yX1_init.2.1 0 = .ok (.aload_n 0, 1) := by decide +kernel
theorem dX1_init_1 : decode yX1_init.2.1 1 = .ok (.invokespecial 3, 3) := by decide +kernel
theorem dX1_init_4 : decode yX1_init.2.1 4 = .ok (.aload_n 0, 1) := by decide +kernel
theorem dX1_init_5 : decode yX1_init.2.1 5 = .ok (.bipush 40, 2) := by decide +kernel
theorem dX1_init_7 : decode yX1_init.2.1 7 = .ok (.newarray .int, 2) := by decide +kernel
theorem dX1_init_9 : decode yX1_init.2.1 9 = .ok (.putfield 9, 3) := by decide +kernel
theorem dX1_init_12 : decode yX1_init.2.1 12 = .ok (.aload_n 0, 1) := by decide +kernel
theorem dX1_init_13 : decode yX1_init.2.1 13 = .ok (.bipush 40, 2) := by decide +kernel
theorem dX1_init_15 : decode yX1_init.2.1 15 = .ok (.newarray .int, 2) := by decide +kernel
theorem dX1_init_17 : decode yX1_init.2.1 17 = .ok (.putfield 15, 3) := by decide +kernel
theorem dX1_init_20 : decode yX1_init.2.1 20 = .ok (.return_, 1) := by decide +kernel
theorem dX1_keep_0 : decode yX1_keep.2.1 0 = .ok (.aload_n 1, 1) := by decide +kernel
theorem dX1_keep_1 : decode yX1_keep.2.1 1 = .ok (.getfield 18, 3) := by decide +kernel
theorem dX1_keep_4 : decode yX1_keep.2.1 4 = .ok (.iconst 1, 1) := by decide +kernel
theorem dX1_keep_5 : decode yX1_keep.2.1 5 = .ok (.isub, 1) := by decide +kernel
theorem dX1_keep_6 : decode yX1_keep.2.1 6 = .ok (.istore 4, 2) := by decide +kernel
theorem dX1_keep_8 : decode yX1_keep.2.1 8 = .ok (.iload 4, 2) := by decide +kernel
theorem dX1_keep_10 : decode yX1_keep.2.1 10 = .ok (.ifCond .lt 23, 3) := by decide +kernel
theorem dX1_keep_13 : decode yX1_keep.2.1 13 = .ok (.aload_n 0, 1) := by decide +kernel
theorem dX1_keep_14 : decode yX1_keep.2.1 14 = .ok (.getfield 15, 3) := by decide +kernel
theorem dX1_keep_17 : decode yX1_keep.2.1 17 = .ok (.iload 4, 2) := by decide +kernel
theorem dX1_keep_19 : decode yX1_keep.2.1 19 = .ok (.aload_n 0, 1) := by decide +kernel
theorem dX1_keep_20 : decode yX1_keep.2.1 20 = .ok (.aload_n 1, 1) := by decide +kernel
theorem dX1_keep_21 : decode yX1_keep.2.1 21 = .ok (.iload 4, 2) := by decide +kernel
theorem dX1_keep_23 : decode yX1_keep.2.1 23 = .ok (.invokevirtual 24, 3) := by decide +kernel
theorem dX1_keep_26 : decode yX1_keep.2.1 26 = .ok (.iastore, 1) := by decide +kernel
theorem dX1_keep_27 : decode yX1_keep.2.1 27 = .ok (.iinc 4 (-1), 3) := by decide +kernel
theorem dX1_keep_30 : decode yX1_keep.2.1 30 = .ok (.goto (-22), 3) := by decide +kernel
theorem dX1_keep_33 : decode yX1_keep.2.1 33 = .ok (.iconst 0, 1) := by decide +kernel
theorem dX1_keep_34 : decode yX1_keep.2.1 34 = .ok (.istore 4, 2) := by decide +kernel
theorem dX1_keep_36 : decode yX1_keep.2.1 36 = .ok (.iconst 0, 1) := by decide +kernel
theorem dX1_keep_37 : decode yX1_keep.2.1 37 = .ok (.istore 5, 2) := by decide +kernel
theorem dX1_keep_39 : decode yX1_keep.2.1 39 = .ok (.iload 5, 2) := by decide +kernel
theorem dX1_keep_41 : decode yX1_keep.2.1 41 = .ok (.aload_n 1, 1) := by decide +kernel
theorem dX1_keep_42 : decode yX1_keep.2.1 42 = .ok (.getfield 18, 3) := by decide +kernel
theorem dX1_keep_45 : decode yX1_keep.2.1 45 = .ok (.if_icmp .ge 62, 3) := by decide +kernel
theorem dX1_keep_48 : decode yX1_keep.2.1 48 = .ok (.aload_n 0, 1) := by decide +kernel
theorem dX1_keep_49 : decode yX1_keep.2.1 49 = .ok (.aload_n 3, 1) := by decide +kernel
theorem dX1_keep_50 : decode yX1_keep.2.1 50 = .ok (.iload 4, 2) := by decide +kernel
theorem dX1_keep_52 : decode yX1_keep.2.1 52 = .ok (.aload_n 1, 1) := by decide +kernel
theorem dX1_keep_53 : decode yX1_keep.2.1 53 = .ok (.getfield 28, 3) := by decide +kernel
theorem dX1_keep_56 : decode yX1_keep.2.1 56 = .ok (.iload 5, 2) := by decide +kernel
theorem dX1_keep_58 : decode yX1_keep.2.1 58 = .ok (.iaload, 1) := by decide +kernel
theorem dX1_keep_59 : decode yX1_keep.2.1 59 = .ok (.invokevirtual 31, 3) := by decide +kernel
theorem dX1_keep_62 : decode yX1_keep.2.1 62 = .ok (.istore 6, 2) := by decide +kernel
theorem dX1_keep_64 : decode yX1_keep.2.1 64 = .ok (.iload 6, 2) := by decide +kernel
theorem dX1_keep_66 : decode yX1_keep.2.1 66 = .ok (.aload_n 0, 1) := by decide +kernel
theorem dX1_keep_67 : decode yX1_keep.2.1 67 = .ok (.getfield 15, 3) := by decide +kernel
theorem dX1_keep_70 : decode yX1_keep.2.1 70 = .ok (.iload 5, 2) := by decide +kernel
theorem dX1_keep_72 : decode yX1_keep.2.1 72 = .ok (.iaload, 1) := by decide +kernel
theorem dX1_keep_73 : decode yX1_keep.2.1 73 = .ok (.iadd, 1) := by decide +kernel
theorem dX1_keep_74 : decode yX1_keep.2.1 74 = .ok (.iload_n 2, 1) := by decide +kernel
theorem dX1_keep_75 : decode yX1_keep.2.1 75 = .ok (.if_icmp .ge 26, 3) := by decide +kernel
theorem dX1_keep_78 : decode yX1_keep.2.1 78 = .ok (.aload_n 3, 1) := by decide +kernel
theorem dX1_keep_79 : decode yX1_keep.2.1 79 = .ok (.iload 4, 2) := by decide +kernel
theorem dX1_keep_81 : decode yX1_keep.2.1 81 = .ok (.aload_n 1, 1) := by decide +kernel
theorem dX1_keep_82 : decode yX1_keep.2.1 82 = .ok (.getfield 28, 3) := by decide +kernel
theorem dX1_keep_85 : decode yX1_keep.2.1 85 = .ok (.iload 5, 2) := by decide +kernel
theorem dX1_keep_87 : decode yX1_keep.2.1 87 = .ok (.iaload, 1) := by decide +kernel
theorem dX1_keep_88 : decode yX1_keep.2.1 88 = .ok (.iastore, 1) := by decide +kernel
theorem dX1_keep_89 : decode yX1_keep.2.1 89 = .ok (.aload_n 0, 1) := by decide +kernel
theorem dX1_keep_90 : decode yX1_keep.2.1 90 = .ok (.getfield 9, 3) := by decide +kernel
theorem dX1_keep_93 : decode yX1_keep.2.1 93 = .ok (.iload 4, 2) := by decide +kernel
theorem dX1_keep_95 : decode yX1_keep.2.1 95 = .ok (.iload 6, 2) := by decide +kernel
theorem dX1_keep_97 : decode yX1_keep.2.1 97 = .ok (.iastore, 1) := by decide +kernel
theorem dX1_keep_98 : decode yX1_keep.2.1 98 = .ok (.iinc 4 1, 3) := by decide +kernel
theorem dX1_keep_101 : decode yX1_keep.2.1 101 = .ok (.iinc 5 1, 3) := by decide +kernel
theorem dX1_keep_104 : decode yX1_keep.2.1 104 = .ok (.goto (-65), 3) := by decide +kernel
theorem dX1_keep_107 : decode yX1_keep.2.1 107 = .ok (.iload 4, 2) := by decide +kernel
theorem dX1_keep_109 : decode yX1_keep.2.1 109 = .ok (.ireturn, 1) := by decide +kernel
theorem dX1_lookBehind_0 : decode yX1_lookBehind.2.1 0 = .ok (.bipush 40, 2) := by decide +kernel
theorem dX1_lookBehind_2 : decode yX1_lookBehind.2.1 2 = .ok (.istore_n 3, 1) := by decide +kernel
theorem dX1_lookBehind_3 : decode yX1_lookBehind.2.1 3 = .ok (.iload_n 2, 1) := by decide +kernel
theorem dX1_lookBehind_4 : decode yX1_lookBehind.2.1 4 = .ok (.iconst 1, 1) := by decide +kernel
theorem dX1_lookBehind_5 : decode yX1_lookBehind.2.1 5 = .ok (.iadd, 1) := by decide +kernel
theorem dX1_lookBehind_6 : decode yX1_lookBehind.2.1 6 = .ok (.istore 4, 2) := by decide +kernel
theorem dX1_lookBehind_8 : decode yX1_lookBehind.2.1 8 = .ok (.iload 4, 2) := by decide +kernel
theorem dX1_lookBehind_10 : decode yX1_lookBehind.2.1 10 = .ok (.aload_n 1, 1) := by decide +kernel
theorem dX1_lookBehind_11 : decode yX1_lookBehind.2.1 11 = .ok (.getfield 18, 3) := by decide +kernel
theorem dX1_lookBehind_14 : decode yX1_lookBehind.2.1 14 = .ok (.if_icmp .ge 41, 3) := by decide +kernel
theorem dX1_lookBehind_17 : decode yX1_lookBehind.2.1 17 = .ok (.iload_n 3, 1) := by decide +kernel
theorem dX1_lookBehind_18 : decode yX1_lookBehind.2.1 18 = .ok (.aload_n 0, 1) := by decide +kernel
theorem dX1_lookBehind_19 : decode yX1_lookBehind.2.1 19 = .ok (.getfield 15, 3) := by decide +kernel
theorem dX1_lookBehind_22 : decode yX1_lookBehind.2.1 22 = .ok (.iload 4, 2) := by decide +kernel
theorem dX1_lookBehind_24 : decode yX1_lookBehind.2.1 24 = .ok (.iaload, 1) := by decide +kernel
theorem dX1_lookBehind_25 : decode yX1_lookBehind.2.1 25 = .ok (.iconst 1, 1) := by decide +kernel
theorem dX1_lookBehind_26 : decode yX1_lookBehind.2.1 26 = .ok (.iadd, 1) := by decide +kernel
theorem dX1_lookBehind_27 : decode yX1_lookBehind.2.1 27 = .ok (.invokestatic 35, 3) := by decide +kernel
theorem dX1_lookBehind_30 : decode yX1_lookBehind.2.1 30 = .ok (.istore_n 3, 1) := by decide +kernel
theorem dX1_lookBehind_31 : decode yX1_lookBehind.2.1 31 = .ok (.aload_n 1, 1) := by decide +kernel
theorem dX1_lookBehind_32 : decode yX1_lookBehind.2.1 32 = .ok (.getfield 28, 3) := by decide +kernel
theorem dX1_lookBehind_35 : decode yX1_lookBehind.2.1 35 = .ok (.iload 4, 2) := by decide +kernel
theorem dX1_lookBehind_37 : decode yX1_lookBehind.2.1 37 = .ok (.iaload, 1) := by decide +kernel
theorem dX1_lookBehind_38 : decode yX1_lookBehind.2.1 38 = .ok (.aload_n 1, 1) := by decide +kernel
theorem dX1_lookBehind_39 : decode yX1_lookBehind.2.1 39 = .ok (.getfield 28, 3) := by decide +kernel
theorem dX1_lookBehind_42 : decode yX1_lookBehind.2.1 42 = .ok (.iload_n 2, 1) := by decide +kernel
theorem dX1_lookBehind_43 : decode yX1_lookBehind.2.1 43 = .ok (.iaload, 1) := by decide +kernel
theorem dX1_lookBehind_44 : decode yX1_lookBehind.2.1 44 = .ok (.if_icmp .ne 5, 3) := by decide +kernel
theorem dX1_lookBehind_47 : decode yX1_lookBehind.2.1 47 = .ok (.iload_n 3, 1) := by decide +kernel
theorem dX1_lookBehind_48 : decode yX1_lookBehind.2.1 48 = .ok (.ireturn, 1) := by decide +kernel
theorem dX1_lookBehind_49 : decode yX1_lookBehind.2.1 49 = .ok (.iinc 4 1, 3) := by decide +kernel
theorem dX1_lookBehind_52 : decode yX1_lookBehind.2.1 52 = .ok (.goto (-44), 3) := by decide +kernel
theorem dX1_lookBehind_55 : decode yX1_lookBehind.2.1 55 = .ok (.iconst 0, 1) := by decide +kernel
theorem dX1_lookBehind_56 : decode yX1_lookBehind.2.1 56 = .ok (.ireturn, 1) := by decide +kernel
theorem dX1_lookAhead_0 : decode yX1_lookAhead.2.1 0 = .ok (.bipush 40, 2) := by decide +kernel
theorem dX1_lookAhead_2 : decode yX1_lookAhead.2.1 2 = .ok (.istore 4, 2) := by decide +kernel
theorem dX1_lookAhead_4 : decode yX1_lookAhead.2.1 4 = .ok (.iload_n 2, 1) := by decide +kernel
theorem dX1_lookAhead_5 : decode yX1_lookAhead.2.1 5 = .ok (.iconst 1, 1) := by decide +kernel
theorem dX1_lookAhead_6 : decode yX1_lookAhead.2.1 6 = .ok (.isub, 1) := by decide +kernel
theorem dX1_lookAhead_7 : decode yX1_lookAhead.2.1 7 = .ok (.istore 5, 2) := by decide +kernel
theorem dX1_lookAhead_9 : decode yX1_lookAhead.2.1 9 = .ok (.iload 5, 2) := by decide +kernel
theorem dX1_lookAhead_11 : decode yX1_lookAhead.2.1 11 = .ok (.ifCond .lt 36, 3) := by decide +kernel
theorem dX1_lookAhead_14 : decode yX1_lookAhead.2.1 14 = .ok (.iload 4, 2) := by decide +kernel
theorem dX1_lookAhead_16 : decode yX1_lookAhead.2.1 16 = .ok (.aload_n 0, 1) := by decide +kernel
theorem dX1_lookAhead_17 : decode yX1_lookAhead.2.1 17 = .ok (.getfield 9, 3) := by decide +kernel
theorem dX1_lookAhead_20 : decode yX1_lookAhead.2.1 20 = .ok (.iload 5, 2) := by decide +kernel
theorem dX1_lookAhead_22 : decode yX1_lookAhead.2.1 22 = .ok (.iaload, 1) := by decide +kernel
theorem dX1_lookAhead_23 : decode yX1_lookAhead.2.1 23 = .ok (.iconst 1, 1) := by decide +kernel
theorem dX1_lookAhead_24 : decode yX1_lookAhead.2.1 24 = .ok (.iadd, 1) := by decide +kernel
theorem dX1_lookAhead_25 : decode yX1_lookAhead.2.1 25 = .ok (.invokestatic 35, 3) := by decide +kernel
theorem dX1_lookAhead_28 : decode yX1_lookAhead.2.1 28 = .ok (.istore 4, 2) := by decide +kernel
theorem dX1_lookAhead_30 : decode yX1_lookAhead.2.1 30 = .ok (.aload_n 1, 1) := by decide +kernel
theorem dX1_lookAhead_31 : decode yX1_lookAhead.2.1 31 = .ok (.iload 5, 2) := by decide +kernel
theorem dX1_lookAhead_33 : decode yX1_lookAhead.2.1 33 = .ok (.iaload, 1) := by decide +kernel
theorem dX1_lookAhead_34 : decode yX1_lookAhead.2.1 34 = .ok (.iload_n 3, 1) := by decide +kernel
theorem dX1_lookAhead_35 : decode yX1_lookAhead.2.1 35 = .ok (.if_icmp .ne 6, 3) := by decide +kernel
theorem dX1_lookAhead_38 : decode yX1_lookAhead.2.1 38 = .ok (.iload 4, 2) := by decide +kernel
theorem dX1_lookAhead_40 : decode yX1_lookAhead.2.1 40 = .ok (.ireturn, 1) := by decide +kernel
theorem dX1_lookAhead_41 : decode yX1_lookAhead.2.1 41 = .ok (.iinc 5 (-1), 3) := by decide +kernel
theorem dX1_lookAhead_44 : decode yX1_lookAhead.2.1 44 = .ok (.goto (-35), 3) := by decide +kernel
theorem dX1_lookAhead_47 : decode yX1_lookAhead.2.1 47 = .ok (.iconst 0, 1) := by decide +kernel
theorem dX1_lookAhead_48 : decode yX1_lookAhead.2.1 48 = .ok (.ireturn, 1) := by decide +kernel
theorem dX2_init_0 : decode yX2_init.2.1 0 = .ok (.aload_n 0, 1) := by decide +kernel
theorem dX2_init_1 : decode yX2_init.2.1 1 = .ok (.invokespecial 3, 3) := by decide +kernel
theorem dX2_init_4 : decode yX2_init.2.1 4 = .ok (.aload_n 0, 1) := by decide +kernel
theorem dX2_init_5 : decode yX2_init.2.1 5 = .ok (.new 9, 3) := by decide +kernel
theorem dX2_init_8 : decode yX2_init.2.1 8 = .ok (.dup, 1) := by decide +kernel
theorem dX2_init_9 : decode yX2_init.2.1 9 = .ok (.invokespecial 11, 3) := by decide +kernel
theorem dX2_init_12 : decode yX2_init.2.1 12 = .ok (.putfield 12, 3) := by decide +kernel
theorem dX2_init_15 : decode yX2_init.2.1 15 = .ok (.aload_n 0, 1) := by decide +kernel
theorem dX2_init_16 : decode yX2_init.2.1 16 = .ok (.aload_n 1, 1) := by decide +kernel
theorem dX2_init_17 : decode yX2_init.2.1 17 = .ok (.putfield 18, 3) := by decide +kernel
theorem dX2_init_20 : decode yX2_init.2.1 20 = .ok (.return_, 1) := by decide +kernel
theorem dX2_read_0 : decode yX2_read.2.1 0 = .ok (.aload_n 0, 1) := by decide +kernel
theorem dX2_read_1 : decode yX2_read.2.1 1 = .ok (.getfield 12, 3) := by decide +kernel
theorem dX2_read_4 : decode yX2_read.2.1 4 = .ok (.aload_n 1, 1) := by decide +kernel
theorem dX2_read_5 : decode yX2_read.2.1 5 = .ok (.invokevirtual 22, 3) := by decide +kernel
theorem dX2_read_8 : decode yX2_read.2.1 8 = .ok (.aload_n 0, 1) := by decide +kernel
theorem dX2_read_9 : decode yX2_read.2.1 9 = .ok (.aload_n 1, 1) := by decide +kernel
theorem dX2_read_10 : decode yX2_read.2.1 10 = .ok (.getfield 26, 3) := by decide +kernel
theorem dX2_read_13 : decode yX2_read.2.1 13 = .ok (.putfield 32, 3) := by decide +kernel
theorem dX2_read_16 : decode yX2_read.2.1 16 = .ok (.aload_n 1, 1) := by decide +kernel
theorem dX2_read_17 : decode yX2_read.2.1 17 = .ok (.getfield 26, 3) := by decide +kernel
theorem dX2_read_20 : decode yX2_read.2.1 20 = .ok (.bipush 41, 2) := by decide +kernel
theorem dX2_read_22 : decode yX2_read.2.1 22 = .ok (.imul, 1) := by decide +kernel
theorem dX2_read_23 : decode yX2_read.2.1 23 = .ok (.istore_n 2, 1) := by decide +kernel
theorem dX2_read_24 : decode yX2_read.2.1 24 = .ok (.aload_n 0, 1) := by decide +kernel
theorem dX2_read_25 : decode yX2_read.2.1 25 = .ok (.getfield 18, 3) := by decide +kernel
theorem dX2_read_28 : decode yX2_read.2.1 28 = .ok (.iload_n 2, 1) := by decide +kernel
theorem dX2_read_29 : decode yX2_read.2.1 29 = .ok (.lconst 1, 1) := by decide +kernel
theorem dX2_read_30 : decode yX2_read.2.1 30 = .ok (.lastore, 1) := by decide +kernel
theorem dX2_read_31 : decode yX2_read.2.1 31 = .ok (.iconst 1, 1) := by decide +kernel
theorem dX2_read_32 : decode yX2_read.2.1 32 = .ok (.istore_n 3, 1) := by decide +kernel
theorem dX2_read_33 : decode yX2_read.2.1 33 = .ok (.iload_n 3, 1) := by decide +kernel
theorem dX2_read_34 : decode yX2_read.2.1 34 = .ok (.bipush 41, 2) := by decide +kernel
theorem dX2_read_36 : decode yX2_read.2.1 36 = .ok (.if_icmp .ge 18, 3) := by decide +kernel
theorem dX2_read_39 : decode yX2_read.2.1 39 = .ok (.aload_n 0, 1) := by decide +kernel
theorem dX2_read_40 : decode yX2_read.2.1 40 = .ok (.getfield 18, 3) := by decide +kernel
theorem dX2_read_43 : decode yX2_read.2.1 43 = .ok (.iload_n 2, 1) := by decide +kernel
theorem dX2_read_44 : decode yX2_read.2.1 44 = .ok (.iload_n 3, 1) := by decide +kernel
theorem dX2_read_45 : decode yX2_read.2.1 45 = .ok (.iadd, 1) := by decide +kernel
theorem dX2_read_46 : decode yX2_read.2.1 46 = .ok (.lconst 0, 1) := by decide +kernel
theorem dX2_read_47 : decode yX2_read.2.1 47 = .ok (.lastore, 1) := by decide +kernel
theorem dX2_read_48 : decode yX2_read.2.1 48 = .ok (.iinc 3 1, 3) := by decide +kernel
theorem dX2_read_51 : decode yX2_read.2.1 51 = .ok (.goto (-18), 3) := by decide +kernel
theorem dX2_read_54 : decode yX2_read.2.1 54 = .ok (.aload_n 1, 1) := by decide +kernel
theorem dX2_read_55 : decode yX2_read.2.1 55 = .ok (.getfield 26, 3) := by decide +kernel
theorem dX2_read_58 : decode yX2_read.2.1 58 = .ok (.iconst 1, 1) := by decide +kernel
theorem dX2_read_59 : decode yX2_read.2.1 59 = .ok (.isub, 1) := by decide +kernel
theorem dX2_read_60 : decode yX2_read.2.1 60 = .ok (.istore_n 3, 1) := by decide +kernel
theorem dX2_read_61 : decode yX2_read.2.1 61 = .ok (.iload_n 3, 1) := by decide +kernel
theorem dX2_read_62 : decode yX2_read.2.1 62 = .ok (.ifCond .lt 33, 3) := by decide +kernel
theorem dX2_read_65 : decode yX2_read.2.1 65 = .ok (.aload_n 0, 1) := by decide +kernel
theorem dX2_read_66 : decode yX2_read.2.1 66 = .ok (.iload_n 3, 1) := by decide +kernel
theorem dX2_read_67 : decode yX2_read.2.1 67 = .ok (.bipush 41, 2) := by decide +kernel
theorem dX2_read_69 : decode yX2_read.2.1 69 = .ok (.imul, 1) := by decide +kernel
theorem dX2_read_70 : decode yX2_read.2.1 70 = .ok (.aload_n 0, 1) := by decide +kernel
theorem dX2_read_71 : decode yX2_read.2.1 71 = .ok (.getfield 12, 3) := by decide +kernel
theorem dX2_read_74 : decode yX2_read.2.1 74 = .ok (.iload_n 3, 1) := by decide +kernel
theorem dX2_read_75 : decode yX2_read.2.1 75 = .ok (.iconst 1, 1) := by decide +kernel
theorem dX2_read_76 : decode yX2_read.2.1 76 = .ok (.iadd, 1) := by decide +kernel
theorem dX2_read_77 : decode yX2_read.2.1 77 = .ok (.aload_n 1, 1) := by decide +kernel
theorem dX2_read_78 : decode yX2_read.2.1 78 = .ok (.getfield 35, 3) := by decide +kernel
theorem dX2_read_81 : decode yX2_read.2.1 81 = .ok (.iload_n 3, 1) := by decide +kernel
theorem dX2_read_82 : decode yX2_read.2.1 82 = .ok (.iaload, 1) := by decide +kernel
theorem dX2_read_83 : decode yX2_read.2.1 83 = .ok (.invokevirtual 39, 3) := by decide +kernel
theorem dX2_read_86 : decode yX2_read.2.1 86 = .ok (.invokevirtual 43, 3) := by decide +kernel
theorem dX2_read_89 : decode yX2_read.2.1 89 = .ok (.iinc 3 (-1), 3) := by decide +kernel
theorem dX2_read_92 : decode yX2_read.2.1 92 = .ok (.goto (-31), 3) := by decide +kernel
theorem dX2_read_95 : decode yX2_read.2.1 95 = .ok (.return_, 1) := by decide +kernel
theorem dX2_readPlace_0 : decode yX2_readPlace.2.1 0 = .ok (.aload_n 0, 1) := by decide +kernel
theorem dX2_readPlace_1 : decode yX2_readPlace.2.1 1 = .ok (.getfield 18, 3) := by decide +kernel
theorem dX2_readPlace_4 : decode yX2_readPlace.2.1 4 = .ok (.iload_n 1, 1) := by decide +kernel
theorem dX2_readPlace_5 : decode yX2_readPlace.2.1 5 = .ok (.lconst 1, 1) := by decide +kernel
theorem dX2_readPlace_6 : decode yX2_readPlace.2.1 6 = .ok (.lastore, 1) := by decide +kernel
theorem dX2_readPlace_7 : decode yX2_readPlace.2.1 7 = .ok (.iconst 1, 1) := by decide +kernel
theorem dX2_readPlace_8 : decode yX2_readPlace.2.1 8 = .ok (.istore_n 3, 1) := by decide +kernel
theorem dX2_readPlace_9 : decode yX2_readPlace.2.1 9 = .ok (.iload_n 3, 1) := by decide +kernel
theorem dX2_readPlace_10 : decode yX2_readPlace.2.1 10 = .ok (.bipush 41, 2) := by decide +kernel
theorem dX2_readPlace_12 : decode yX2_readPlace.2.1 12 = .ok (.if_icmp .ge 68, 3) := by decide +kernel
theorem dX2_readPlace_15 : decode yX2_readPlace.2.1 15 = .ok (.iload_n 2, 1) := by decide +kernel
theorem dX2_readPlace_16 : decode yX2_readPlace.2.1 16 = .ok (.ifCond .ne 7, 3) := by decide +kernel
theorem dX2_readPlace_19 : decode yX2_readPlace.2.1 19 = .ok (.lconst 0, 1) := by decide +kernel
theorem dX2_readPlace_20 : decode yX2_readPlace.2.1 20 = .ok (.goto 16, 3) := by decide +kernel
theorem dX2_readPlace_23 : decode yX2_readPlace.2.1 23 = .ok (.aload_n 0, 1) := by decide +kernel
theorem dX2_readPlace_24 : decode yX2_readPlace.2.1 24 = .ok (.getfield 18, 3) := by decide +kernel
theorem dX2_readPlace_27 : decode yX2_readPlace.2.1 27 = .ok (.iload_n 2, 1) := by decide +kernel
theorem dX2_readPlace_28 : decode yX2_readPlace.2.1 28 = .ok (.bipush 41, 2) := by decide +kernel
theorem dX2_readPlace_30 : decode yX2_readPlace.2.1 30 = .ok (.imul, 1) := by decide +kernel
theorem dX2_readPlace_31 : decode yX2_readPlace.2.1 31 = .ok (.iload_n 3, 1) := by decide +kernel
theorem dX2_readPlace_32 : decode yX2_readPlace.2.1 32 = .ok (.iadd, 1) := by decide +kernel
theorem dX2_readPlace_33 : decode yX2_readPlace.2.1 33 = .ok (.iconst 1, 1) := by decide +kernel
theorem dX2_readPlace_34 : decode yX2_readPlace.2.1 34 = .ok (.isub, 1) := by decide +kernel
theorem dX2_readPlace_35 : decode yX2_readPlace.2.1 35 = .ok (.laload, 1) := by decide +kernel
theorem dX2_readPlace_36 : decode yX2_readPlace.2.1 36 = .ok (.lstore 4, 2) := by decide +kernel
theorem dX2_readPlace_38 : decode yX2_readPlace.2.1 38 = .ok (.aload_n 0, 1) := by decide +kernel
theorem dX2_readPlace_39 : decode yX2_readPlace.2.1 39 = .ok (.getfield 18, 3) := by decide +kernel
theorem dX2_readPlace_42 : decode yX2_readPlace.2.1 42 = .ok (.iload_n 1, 1) := by decide +kernel
theorem dX2_readPlace_43 : decode yX2_readPlace.2.1 43 = .ok (.iload_n 3, 1) := by decide +kernel
theorem dX2_readPlace_44 : decode yX2_readPlace.2.1 44 = .ok (.iadd, 1) := by decide +kernel
theorem dX2_readPlace_45 : decode yX2_readPlace.2.1 45 = .ok (.aload_n 0, 1) := by decide +kernel
theorem dX2_readPlace_46 : decode yX2_readPlace.2.1 46 = .ok (.getfield 18, 3) := by decide +kernel
theorem dX2_readPlace_49 : decode yX2_readPlace.2.1 49 = .ok (.iload_n 1, 1) := by decide +kernel
theorem dX2_readPlace_50 : decode yX2_readPlace.2.1 50 = .ok (.bipush 41, 2) := by decide +kernel
theorem dX2_readPlace_52 : decode yX2_readPlace.2.1 52 = .ok (.iadd, 1) := by decide +kernel
theorem dX2_readPlace_53 : decode yX2_readPlace.2.1 53 = .ok (.iload_n 3, 1) := by decide +kernel
theorem dX2_readPlace_54 : decode yX2_readPlace.2.1 54 = .ok (.iadd, 1) := by decide +kernel
theorem dX2_readPlace_55 : decode yX2_readPlace.2.1 55 = .ok (.laload, 1) := by decide +kernel
theorem dX2_readPlace_56 : decode yX2_readPlace.2.1 56 = .ok (.aload_n 0, 1) := by decide +kernel
theorem dX2_readPlace_57 : decode yX2_readPlace.2.1 57 = .ok (.getfield 18, 3) := by decide +kernel
theorem dX2_readPlace_60 : decode yX2_readPlace.2.1 60 = .ok (.iload_n 1, 1) := by decide +kernel
theorem dX2_readPlace_61 : decode yX2_readPlace.2.1 61 = .ok (.bipush 41, 2) := by decide +kernel
theorem dX2_readPlace_63 : decode yX2_readPlace.2.1 63 = .ok (.iadd, 1) := by decide +kernel
theorem dX2_readPlace_64 : decode yX2_readPlace.2.1 64 = .ok (.iload_n 3, 1) := by decide +kernel
theorem dX2_readPlace_65 : decode yX2_readPlace.2.1 65 = .ok (.iadd, 1) := by decide +kernel
theorem dX2_readPlace_66 : decode yX2_readPlace.2.1 66 = .ok (.iconst 1, 1) := by decide +kernel
theorem dX2_readPlace_67 : decode yX2_readPlace.2.1 67 = .ok (.isub, 1) := by decide +kernel
theorem dX2_readPlace_68 : decode yX2_readPlace.2.1 68 = .ok (.laload, 1) := by decide +kernel
theorem dX2_readPlace_69 : decode yX2_readPlace.2.1 69 = .ok (.ladd, 1) := by decide +kernel
theorem dX2_readPlace_70 : decode yX2_readPlace.2.1 70 = .ok (.lload 4, 2) := by decide +kernel
theorem dX2_readPlace_72 : decode yX2_readPlace.2.1 72 = .ok (.lsub, 1) := by decide +kernel
theorem dX2_readPlace_73 : decode yX2_readPlace.2.1 73 = .ok (.lastore, 1) := by decide +kernel
theorem dX2_readPlace_74 : decode yX2_readPlace.2.1 74 = .ok (.iinc 3 1, 3) := by decide +kernel
theorem dX2_readPlace_77 : decode yX2_readPlace.2.1 77 = .ok (.goto (-68), 3) := by decide +kernel
theorem dX2_readPlace_80 : decode yX2_readPlace.2.1 80 = .ok (.return_, 1) := by decide +kernel
theorem dX2_ofLength_0 : decode yX2_ofLength.2.1 0 = .ok (.aload_n 0, 1) := by decide +kernel
theorem dX2_ofLength_1 : decode yX2_ofLength.2.1 1 = .ok (.getfield 18, 3) := by decide +kernel
theorem dX2_ofLength_4 : decode yX2_ofLength.2.1 4 = .ok (.iload_n 1, 1) := by decide +kernel
theorem dX2_ofLength_5 : decode yX2_ofLength.2.1 5 = .ok (.laload, 1) := by decide +kernel
theorem dX2_ofLength_6 : decode yX2_ofLength.2.1 6 = .ok (.lreturn, 1) := by decide +kernel
theorem dX2_ofAnyLength_0 : decode yX2_ofAnyLength.2.1 0 = .ok (.lconst 0, 1) := by decide +kernel
theorem dX2_ofAnyLength_1 : decode yX2_ofAnyLength.2.1 1 = .ok (.lstore_n 1, 1) := by decide +kernel
theorem dX2_ofAnyLength_2 : decode yX2_ofAnyLength.2.1 2 = .ok (.iconst 0, 1) := by decide +kernel
theorem dX2_ofAnyLength_3 : decode yX2_ofAnyLength.2.1 3 = .ok (.istore_n 3, 1) := by decide +kernel
theorem dX2_ofAnyLength_4 : decode yX2_ofAnyLength.2.1 4 = .ok (.iload_n 3, 1) := by decide +kernel
theorem dX2_ofAnyLength_5 : decode yX2_ofAnyLength.2.1 5 = .ok (.aload_n 0, 1) := by decide +kernel
theorem dX2_ofAnyLength_6 : decode yX2_ofAnyLength.2.1 6 = .ok (.getfield 32, 3) := by decide +kernel
theorem dX2_ofAnyLength_9 : decode yX2_ofAnyLength.2.1 9 = .ok (.if_icmp .gt 18, 3) := by decide +kernel
theorem dX2_ofAnyLength_12 : decode yX2_ofAnyLength.2.1 12 = .ok (.lload_n 1, 1) := by decide +kernel
theorem dX2_ofAnyLength_13 : decode yX2_ofAnyLength.2.1 13 = .ok (.aload_n 0, 1) := by decide +kernel
theorem dX2_ofAnyLength_14 : decode yX2_ofAnyLength.2.1 14 = .ok (.getfield 18, 3) := by decide +kernel
theorem dX2_ofAnyLength_17 : decode yX2_ofAnyLength.2.1 17 = .ok (.iload_n 3, 1) := by decide +kernel
theorem dX2_ofAnyLength_18 : decode yX2_ofAnyLength.2.1 18 = .ok (.laload, 1) := by decide +kernel
theorem dX2_ofAnyLength_19 : decode yX2_ofAnyLength.2.1 19 = .ok (.ladd, 1) := by decide +kernel
theorem dX2_ofAnyLength_20 : decode yX2_ofAnyLength.2.1 20 = .ok (.lstore_n 1, 1) := by decide +kernel
theorem dX2_ofAnyLength_21 : decode yX2_ofAnyLength.2.1 21 = .ok (.iinc 3 1, 3) := by decide +kernel
theorem dX2_ofAnyLength_24 : decode yX2_ofAnyLength.2.1 24 = .ok (.goto (-20), 3) := by decide +kernel
theorem dX2_ofAnyLength_27 : decode yX2_ofAnyLength.2.1 27 = .ok (.lload_n 1, 1) := by decide +kernel
theorem dX2_ofAnyLength_28 : decode yX2_ofAnyLength.2.1 28 = .ok (.lreturn, 1) := by decide +kernel
theorem dX2_ahead_0 : decode yX2_ahead.2.1 0 = .ok (.lconst 0, 1) := by decide +kernel
theorem dX2_ahead_1 : decode yX2_ahead.2.1 1 = .ok (.lstore_n 2, 1) := by decide +kernel
theorem dX2_ahead_2 : decode yX2_ahead.2.1 2 = .ok (.iconst 0, 1) := by decide +kernel
theorem dX2_ahead_3 : decode yX2_ahead.2.1 3 = .ok (.istore 4, 2) := by decide +kernel
theorem dX2_ahead_5 : decode yX2_ahead.2.1 5 = .ok (.iconst 0, 1) := by decide +kernel
theorem dX2_ahead_6 : decode yX2_ahead.2.1 6 = .ok (.istore 5, 2) := by decide +kernel
theorem dX2_ahead_8 : decode yX2_ahead.2.1 8 = .ok (.iload 5, 2) := by decide +kernel
theorem dX2_ahead_10 : decode yX2_ahead.2.1 10 = .ok (.aload_n 1, 1) := by decide +kernel
theorem dX2_ahead_11 : decode yX2_ahead.2.1 11 = .ok (.getfield 26, 3) := by decide +kernel
theorem dX2_ahead_14 : decode yX2_ahead.2.1 14 = .ok (.if_icmp .ge 77, 3) := by decide +kernel
theorem dX2_ahead_17 : decode yX2_ahead.2.1 17 = .ok (.iconst 0, 1) := by decide +kernel
theorem dX2_ahead_18 : decode yX2_ahead.2.1 18 = .ok (.istore 6, 2) := by decide +kernel
theorem dX2_ahead_20 : decode yX2_ahead.2.1 20 = .ok (.iload 6, 2) := by decide +kernel
theorem dX2_ahead_22 : decode yX2_ahead.2.1 22 = .ok (.aload_n 1, 1) := by decide +kernel
theorem dX2_ahead_23 : decode yX2_ahead.2.1 23 = .ok (.getfield 35, 3) := by decide +kernel
theorem dX2_ahead_26 : decode yX2_ahead.2.1 26 = .ok (.iload 5, 2) := by decide +kernel
theorem dX2_ahead_28 : decode yX2_ahead.2.1 28 = .ok (.iaload, 1) := by decide +kernel
theorem dX2_ahead_29 : decode yX2_ahead.2.1 29 = .ok (.if_icmp .ge 29, 3) := by decide +kernel
theorem dX2_ahead_32 : decode yX2_ahead.2.1 32 = .ok (.lload_n 2, 1) := by decide +kernel
theorem dX2_ahead_33 : decode yX2_ahead.2.1 33 = .ok (.aload_n 0, 1) := by decide +kernel
theorem dX2_ahead_34 : decode yX2_ahead.2.1 34 = .ok (.iload 4, 2) := by decide +kernel
theorem dX2_ahead_36 : decode yX2_ahead.2.1 36 = .ok (.iload 6, 2) := by decide +kernel
theorem dX2_ahead_38 : decode yX2_ahead.2.1 38 = .ok (.aload_n 1, 1) := by decide +kernel
theorem dX2_ahead_39 : decode yX2_ahead.2.1 39 = .ok (.getfield 26, 3) := by decide +kernel
theorem dX2_ahead_42 : decode yX2_ahead.2.1 42 = .ok (.iconst 1, 1) := by decide +kernel
theorem dX2_ahead_43 : decode yX2_ahead.2.1 43 = .ok (.isub, 1) := by decide +kernel
theorem dX2_ahead_44 : decode yX2_ahead.2.1 44 = .ok (.iload 5, 2) := by decide +kernel
theorem dX2_ahead_46 : decode yX2_ahead.2.1 46 = .ok (.isub, 1) := by decide +kernel
theorem dX2_ahead_47 : decode yX2_ahead.2.1 47 = .ok (.invokevirtual 47, 3) := by decide +kernel
theorem dX2_ahead_50 : decode yX2_ahead.2.1 50 = .ok (.ladd, 1) := by decide +kernel
theorem dX2_ahead_51 : decode yX2_ahead.2.1 51 = .ok (.lstore_n 2, 1) := by decide +kernel
theorem dX2_ahead_52 : decode yX2_ahead.2.1 52 = .ok (.iinc 6 1, 3) := by decide +kernel
theorem dX2_ahead_55 : decode yX2_ahead.2.1 55 = .ok (.goto (-35), 3) := by decide +kernel
theorem dX2_ahead_58 : decode yX2_ahead.2.1 58 = .ok (.aload_n 0, 1) := by decide +kernel
theorem dX2_ahead_59 : decode yX2_ahead.2.1 59 = .ok (.getfield 12, 3) := by decide +kernel
theorem dX2_ahead_62 : decode yX2_ahead.2.1 62 = .ok (.iload 4, 2) := by decide +kernel
theorem dX2_ahead_64 : decode yX2_ahead.2.1 64 = .ok (.aload_n 1, 1) := by decide +kernel
theorem dX2_ahead_65 : decode yX2_ahead.2.1 65 = .ok (.getfield 35, 3) := by decide +kernel
theorem dX2_ahead_68 : decode yX2_ahead.2.1 68 = .ok (.iload 5, 2) := by decide +kernel
theorem dX2_ahead_70 : decode yX2_ahead.2.1 70 = .ok (.iaload, 1) := by decide +kernel
theorem dX2_ahead_71 : decode yX2_ahead.2.1 71 = .ok (.invokevirtual 39, 3) := by decide +kernel
theorem dX2_ahead_74 : decode yX2_ahead.2.1 74 = .ok (.istore 4, 2) := by decide +kernel
theorem dX2_ahead_76 : decode yX2_ahead.2.1 76 = .ok (.iload 4, 2) := by decide +kernel
theorem dX2_ahead_78 : decode yX2_ahead.2.1 78 = .ok (.ifCond .ne 7, 3) := by decide +kernel
theorem dX2_ahead_81 : decode yX2_ahead.2.1 81 = .ok (.ldc2_w 51, 3) := by decide +kernel
theorem dX2_ahead_84 : decode yX2_ahead.2.1 84 = .ok (.lreturn, 1) := by decide +kernel
theorem dX2_ahead_85 : decode yX2_ahead.2.1 85 = .ok (.iinc 5 1, 3) := by decide +kernel
theorem dX2_ahead_88 : decode yX2_ahead.2.1 88 = .ok (.goto (-80), 3) := by decide +kernel
theorem dX2_ahead_91 : decode yX2_ahead.2.1 91 = .ok (.lload_n 2, 1) := by decide +kernel
theorem dX2_ahead_92 : decode yX2_ahead.2.1 92 = .ok (.lreturn, 1) := by decide +kernel
theorem dX2_pick_0 : decode yX2_pick.2.1 0 = .ok (.iload_n 2, 1) := by decide +kernel
theorem dX2_pick_1 : decode yX2_pick.2.1 1 = .ok (.i2l, 1) := by decide +kernel
theorem dX2_pick_2 : decode yX2_pick.2.1 2 = .ok (.lstore 4, 2) := by decide +kernel
theorem dX2_pick_4 : decode yX2_pick.2.1 4 = .ok (.iconst 0, 1) := by decide +kernel
theorem dX2_pick_5 : decode yX2_pick.2.1 5 = .ok (.istore 6, 2) := by decide +kernel
theorem dX2_pick_7 : decode yX2_pick.2.1 7 = .ok (.iconst 0, 1) := by decide +kernel
theorem dX2_pick_8 : decode yX2_pick.2.1 8 = .ok (.istore 7, 2) := by decide +kernel
theorem dX2_pick_10 : decode yX2_pick.2.1 10 = .ok (.iload 7, 2) := by decide +kernel
theorem dX2_pick_12 : decode yX2_pick.2.1 12 = .ok (.iload_n 1, 1) := by decide +kernel
theorem dX2_pick_13 : decode yX2_pick.2.1 13 = .ok (.if_icmp .ge 90, 3) := by decide +kernel
theorem dX2_pick_16 : decode yX2_pick.2.1 16 = .ok (.iconst 0, 1) := by decide +kernel
theorem dX2_pick_17 : decode yX2_pick.2.1 17 = .ok (.istore 8, 2) := by decide +kernel
theorem dX2_pick_19 : decode yX2_pick.2.1 19 = .ok (.aload_n 0, 1) := by decide +kernel
theorem dX2_pick_20 : decode yX2_pick.2.1 20 = .ok (.iload 6, 2) := by decide +kernel
theorem dX2_pick_22 : decode yX2_pick.2.1 22 = .ok (.iload 8, 2) := by decide +kernel
theorem dX2_pick_24 : decode yX2_pick.2.1 24 = .ok (.iload_n 1, 1) := by decide +kernel
theorem dX2_pick_25 : decode yX2_pick.2.1 25 = .ok (.iconst 1, 1) := by decide +kernel
theorem dX2_pick_26 : decode yX2_pick.2.1 26 = .ok (.isub, 1) := by decide +kernel
theorem dX2_pick_27 : decode yX2_pick.2.1 27 = .ok (.iload 7, 2) := by decide +kernel
theorem dX2_pick_29 : decode yX2_pick.2.1 29 = .ok (.isub, 1) := by decide +kernel
theorem dX2_pick_30 : decode yX2_pick.2.1 30 = .ok (.invokevirtual 47, 3) := by decide +kernel
theorem dX2_pick_33 : decode yX2_pick.2.1 33 = .ok (.lstore 9, 2) := by decide +kernel
theorem dX2_pick_35 : decode yX2_pick.2.1 35 = .ok (.iload 8, 2) := by decide +kernel
theorem dX2_pick_37 : decode yX2_pick.2.1 37 = .ok (.iconst 5, 1) := by decide +kernel
theorem dX2_pick_38 : decode yX2_pick.2.1 38 = .ok (.if_icmp .ge 40, 3) := by decide +kernel
theorem dX2_pick_41 : decode yX2_pick.2.1 41 = .ok (.lload 4, 2) := by decide +kernel
theorem dX2_pick_43 : decode yX2_pick.2.1 43 = .ok (.lload 9, 2) := by decide +kernel
theorem dX2_pick_45 : decode yX2_pick.2.1 45 = .ok (.lcmp, 1) := by decide +kernel
theorem dX2_pick_46 : decode yX2_pick.2.1 46 = .ok (.ifCond .lt 32, 3) := by decide +kernel
theorem dX2_pick_49 : decode yX2_pick.2.1 49 = .ok (.lload 4, 2) := by decide +kernel
theorem dX2_pick_51 : decode yX2_pick.2.1 51 = .ok (.lload 9, 2) := by decide +kernel
theorem dX2_pick_53 : decode yX2_pick.2.1 53 = .ok (.lsub, 1) := by decide +kernel
theorem dX2_pick_54 : decode yX2_pick.2.1 54 = .ok (.lstore 4, 2) := by decide +kernel
theorem dX2_pick_56 : decode yX2_pick.2.1 56 = .ok (.iinc 8 1, 3) := by decide +kernel
theorem dX2_pick_59 : decode yX2_pick.2.1 59 = .ok (.aload_n 0, 1) := by decide +kernel
theorem dX2_pick_60 : decode yX2_pick.2.1 60 = .ok (.iload 6, 2) := by decide +kernel
theorem dX2_pick_62 : decode yX2_pick.2.1 62 = .ok (.iload 8, 2) := by decide +kernel
theorem dX2_pick_64 : decode yX2_pick.2.1 64 = .ok (.iload_n 1, 1) := by decide +kernel
theorem dX2_pick_65 : decode yX2_pick.2.1 65 = .ok (.iconst 1, 1) := by decide +kernel
theorem dX2_pick_66 : decode yX2_pick.2.1 66 = .ok (.isub, 1) := by decide +kernel
theorem dX2_pick_67 : decode yX2_pick.2.1 67 = .ok (.iload 7, 2) := by decide +kernel
theorem dX2_pick_69 : decode yX2_pick.2.1 69 = .ok (.isub, 1) := by decide +kernel
theorem dX2_pick_70 : decode yX2_pick.2.1 70 = .ok (.invokevirtual 47, 3) := by decide +kernel
theorem dX2_pick_73 : decode yX2_pick.2.1 73 = .ok (.lstore 9, 2) := by decide +kernel
theorem dX2_pick_75 : decode yX2_pick.2.1 75 = .ok (.goto (-40), 3) := by decide +kernel
theorem dX2_pick_78 : decode yX2_pick.2.1 78 = .ok (.aload_n 3, 1) := by decide +kernel
theorem dX2_pick_79 : decode yX2_pick.2.1 79 = .ok (.iload 7, 2) := by decide +kernel
theorem dX2_pick_81 : decode yX2_pick.2.1 81 = .ok (.iload 8, 2) := by decide +kernel
theorem dX2_pick_83 : decode yX2_pick.2.1 83 = .ok (.iastore, 1) := by decide +kernel
theorem dX2_pick_84 : decode yX2_pick.2.1 84 = .ok (.aload_n 0, 1) := by decide +kernel
theorem dX2_pick_85 : decode yX2_pick.2.1 85 = .ok (.getfield 12, 3) := by decide +kernel
theorem dX2_pick_88 : decode yX2_pick.2.1 88 = .ok (.iload 6, 2) := by decide +kernel
theorem dX2_pick_90 : decode yX2_pick.2.1 90 = .ok (.iload 8, 2) := by decide +kernel
theorem dX2_pick_92 : decode yX2_pick.2.1 92 = .ok (.invokevirtual 39, 3) := by decide +kernel
theorem dX2_pick_95 : decode yX2_pick.2.1 95 = .ok (.istore 6, 2) := by decide +kernel
theorem dX2_pick_97 : decode yX2_pick.2.1 97 = .ok (.iinc 7 1, 3) := by decide +kernel
theorem dX2_pick_100 : decode yX2_pick.2.1 100 = .ok (.goto (-90), 3) := by decide +kernel
theorem dX2_pick_103 : decode yX2_pick.2.1 103 = .ok (.return_, 1) := by decide +kernel
theorem dX2_countBegun_0 : decode yX2_countBegun.2.1 0 = .ok (.aload_n 0, 1) := by decide +kernel
theorem dX2_countBegun_1 : decode yX2_countBegun.2.1 1 = .ok (.getfield 12, 3) := by decide +kernel
theorem dX2_countBegun_4 : decode yX2_countBegun.2.1 4 = .ok (.iload_n 1, 1) := by decide +kernel
theorem dX2_countBegun_5 : decode yX2_countBegun.2.1 5 = .ok (.iload_n 2, 1) := by decide +kernel
theorem dX2_countBegun_6 : decode yX2_countBegun.2.1 6 = .ok (.invokevirtual 39, 3) := by decide +kernel
theorem dX2_countBegun_9 : decode yX2_countBegun.2.1 9 = .ok (.istore 4, 2) := by decide +kernel
theorem dX2_countBegun_11 : decode yX2_countBegun.2.1 11 = .ok (.iload 4, 2) := by decide +kernel
theorem dX2_countBegun_13 : decode yX2_countBegun.2.1 13 = .ok (.ifCond .ne 7, 3) := by decide +kernel
theorem dX2_countBegun_16 : decode yX2_countBegun.2.1 16 = .ok (.lconst 0, 1) := by decide +kernel
theorem dX2_countBegun_17 : decode yX2_countBegun.2.1 17 = .ok (.goto 15, 3) := by decide +kernel
theorem dX2_countBegun_20 : decode yX2_countBegun.2.1 20 = .ok (.aload_n 0, 1) := by decide +kernel
theorem dX2_countBegun_21 : decode yX2_countBegun.2.1 21 = .ok (.getfield 18, 3) := by decide +kernel
theorem dX2_countBegun_24 : decode yX2_countBegun.2.1 24 = .ok (.iload 4, 2) := by decide +kernel
theorem dX2_countBegun_26 : decode yX2_countBegun.2.1 26 = .ok (.bipush 41, 2) := by decide +kernel
theorem dX2_countBegun_28 : decode yX2_countBegun.2.1 28 = .ok (.imul, 1) := by decide +kernel
theorem dX2_countBegun_29 : decode yX2_countBegun.2.1 29 = .ok (.iload_n 3, 1) := by decide +kernel
theorem dX2_countBegun_30 : decode yX2_countBegun.2.1 30 = .ok (.iadd, 1) := by decide +kernel
theorem dX2_countBegun_31 : decode yX2_countBegun.2.1 31 = .ok (.laload, 1) := by decide +kernel
theorem dX2_countBegun_32 : decode yX2_countBegun.2.1 32 = .ok (.lreturn, 1) := by decide +kernel
theorem dX3_init_0 : decode yX3_init.2.1 0 = .ok (.aload_n 0, 1) := by decide +kernel
theorem dX3_init_1 : decode yX3_init.2.1 1 = .ok (.invokespecial 3, 3) := by decide +kernel
theorem dX3_init_4 : decode yX3_init.2.1 4 = .ok (.aload_n 0, 1) := by decide +kernel
theorem dX3_init_5 : decode yX3_init.2.1 5 = .ok (.iconst (-1), 1) := by decide +kernel
theorem dX3_init_6 : decode yX3_init.2.1 6 = .ok (.putfield 9, 3) := by decide +kernel
theorem dX3_init_9 : decode yX3_init.2.1 9 = .ok (.aload_n 0, 1) := by decide +kernel
theorem dX3_init_10 : decode yX3_init.2.1 10 = .ok (.iload_n 1, 1) := by decide +kernel
theorem dX3_init_11 : decode yX3_init.2.1 11 = .ok (.newarray .int, 2) := by decide +kernel
theorem dX3_init_13 : decode yX3_init.2.1 13 = .ok (.putfield 15, 3) := by decide +kernel
theorem dX3_init_16 : decode yX3_init.2.1 16 = .ok (.return_, 1) := by decide +kernel
theorem dX3_isMissing_0 : decode yX3_isMissing.2.1 0 = .ok (.aload_n 0, 1) := by decide +kernel
theorem dX3_isMissing_1 : decode yX3_isMissing.2.1 1 = .ok (.getfield 9, 3) := by decide +kernel
theorem dX3_isMissing_4 : decode yX3_isMissing.2.1 4 = .ok (.ifCond .ge 7, 3) := by decide +kernel
theorem dX3_isMissing_7 : decode yX3_isMissing.2.1 7 = .ok (.iconst 1, 1) := by decide +kernel
theorem dX3_isMissing_8 : decode yX3_isMissing.2.1 8 = .ok (.goto 4, 3) := by decide +kernel
theorem dX3_isMissing_11 : decode yX3_isMissing.2.1 11 = .ok (.iconst 0, 1) := by decide +kernel
theorem dX3_isMissing_12 : decode yX3_isMissing.2.1 12 = .ok (.ireturn, 1) := by decide +kernel
theorem dX3_has_0 : decode yX3_has.2.1 0 = .ok (.iload_n 1, 1) := by decide +kernel
theorem dX3_has_1 : decode yX3_has.2.1 1 = .ok (.ifCond .lt 15, 3) := by decide +kernel
theorem dX3_has_4 : decode yX3_has.2.1 4 = .ok (.iload_n 1, 1) := by decide +kernel
theorem dX3_has_5 : decode yX3_has.2.1 5 = .ok (.aload_n 0, 1) := by decide +kernel
theorem dX3_has_6 : decode yX3_has.2.1 6 = .ok (.getfield 9, 3) := by decide +kernel
theorem dX3_has_9 : decode yX3_has.2.1 9 = .ok (.if_icmp .ge 7, 3) := by decide +kernel
theorem dX3_has_12 : decode yX3_has.2.1 12 = .ok (.iconst 1, 1) := by decide +kernel
theorem dX3_has_13 : decode yX3_has.2.1 13 = .ok (.goto 4, 3) := by decide +kernel
theorem dX3_has_16 : decode yX3_has.2.1 16 = .ok (.iconst 0, 1) := by decide +kernel
theorem dX3_has_17 : decode yX3_has.2.1 17 = .ok (.ireturn, 1) := by decide +kernel
theorem dX3_reaches_0 : decode yX3_reaches.2.1 0 = .ok (.iload_n 1, 1) := by decide +kernel
theorem dX3_reaches_1 : decode yX3_reaches.2.1 1 = .ok (.ifCond .lt 17, 3) := by decide +kernel
theorem dX3_reaches_4 : decode yX3_reaches.2.1 4 = .ok (.iload_n 1, 1) := by decide +kernel
theorem dX3_reaches_5 : decode yX3_reaches.2.1 5 = .ok (.aload_n 0, 1) := by decide +kernel
theorem dX3_reaches_6 : decode yX3_reaches.2.1 6 = .ok (.getfield 9, 3) := by decide +kernel
theorem dX3_reaches_9 : decode yX3_reaches.2.1 9 = .ok (.iload_n 2, 1) := by decide +kernel
theorem dX3_reaches_10 : decode yX3_reaches.2.1 10 = .ok (.isub, 1) := by decide +kernel
theorem dX3_reaches_11 : decode yX3_reaches.2.1 11 = .ok (.if_icmp .gt 7, 3) := by decide +kernel
theorem dX3_reaches_14 : decode yX3_reaches.2.1 14 = .ok (.iconst 1, 1) := by decide +kernel
theorem dX3_reaches_15 : decode yX3_reaches.2.1 15 = .ok (.goto 4, 3) := by decide +kernel
theorem dX3_reaches_18 : decode yX3_reaches.2.1 18 = .ok (.iconst 0, 1) := by decide +kernel
theorem dX3_reaches_19 : decode yX3_reaches.2.1 19 = .ok (.ireturn, 1) := by decide +kernel
theorem dX3_isBelow_0 : decode yX3_isBelow.2.1 0 = .ok (.iconst 0, 1) := by decide +kernel
theorem dX3_isBelow_1 : decode yX3_isBelow.2.1 1 = .ok (.istore_n 2, 1) := by decide +kernel
theorem dX3_isBelow_2 : decode yX3_isBelow.2.1 2 = .ok (.iload_n 2, 1) := by decide +kernel
theorem dX3_isBelow_3 : decode yX3_isBelow.2.1 3 = .ok (.aload_n 0, 1) := by decide +kernel
theorem dX3_isBelow_4 : decode yX3_isBelow.2.1 4 = .ok (.getfield 9, 3) := by decide +kernel
theorem dX3_isBelow_7 : decode yX3_isBelow.2.1 7 = .ok (.if_icmp .ge 30, 3) := by decide +kernel
theorem dX3_isBelow_10 : decode yX3_isBelow.2.1 10 = .ok (.aload_n 0, 1) := by decide +kernel
theorem dX3_isBelow_11 : decode yX3_isBelow.2.1 11 = .ok (.getfield 15, 3) := by decide +kernel
theorem dX3_isBelow_14 : decode yX3_isBelow.2.1 14 = .ok (.iload_n 2, 1) := by decide +kernel
theorem dX3_isBelow_15 : decode yX3_isBelow.2.1 15 = .ok (.iaload, 1) := by decide +kernel
theorem dX3_isBelow_16 : decode yX3_isBelow.2.1 16 = .ok (.ifCond .lt 13, 3) := by decide +kernel
theorem dX3_isBelow_19 : decode yX3_isBelow.2.1 19 = .ok (.aload_n 0, 1) := by decide +kernel
theorem dX3_isBelow_20 : decode yX3_isBelow.2.1 20 = .ok (.getfield 15, 3) := by decide +kernel
theorem dX3_isBelow_23 : decode yX3_isBelow.2.1 23 = .ok (.iload_n 2, 1) := by decide +kernel
theorem dX3_isBelow_24 : decode yX3_isBelow.2.1 24 = .ok (.iaload, 1) := by decide +kernel
theorem dX3_isBelow_25 : decode yX3_isBelow.2.1 25 = .ok (.iload_n 1, 1) := by decide +kernel
theorem dX3_isBelow_26 : decode yX3_isBelow.2.1 26 = .ok (.if_icmp .lt 5, 3) := by decide +kernel
theorem dX3_isBelow_29 : decode yX3_isBelow.2.1 29 = .ok (.iconst 0, 1) := by decide +kernel
theorem dX3_isBelow_30 : decode yX3_isBelow.2.1 30 = .ok (.ireturn, 1) := by decide +kernel
theorem dX3_isBelow_31 : decode yX3_isBelow.2.1 31 = .ok (.iinc 2 1, 3) := by decide +kernel
theorem dX3_isBelow_34 : decode yX3_isBelow.2.1 34 = .ok (.goto (-32), 3) := by decide +kernel
theorem dX3_isBelow_37 : decode yX3_isBelow.2.1 37 = .ok (.iconst 1, 1) := by decide +kernel
theorem dX3_isBelow_38 : decode yX3_isBelow.2.1 38 = .ok (.ireturn, 1) := by decide +kernel
theorem dX3_begin_0 : decode yX3_begin.2.1 0 = .ok (.iconst 0, 1) := by decide +kernel
theorem dX3_begin_1 : decode yX3_begin.2.1 1 = .ok (.istore_n 3, 1) := by decide +kernel
theorem dX3_begin_2 : decode yX3_begin.2.1 2 = .ok (.iload_n 3, 1) := by decide +kernel
theorem dX3_begin_3 : decode yX3_begin.2.1 3 = .ok (.iload_n 1, 1) := by decide +kernel
theorem dX3_begin_4 : decode yX3_begin.2.1 4 = .ok (.if_icmp .ge 16, 3) := by decide +kernel
theorem dX3_begin_7 : decode yX3_begin.2.1 7 = .ok (.aload_n 0, 1) := by decide +kernel
theorem dX3_begin_8 : decode yX3_begin.2.1 8 = .ok (.getfield 15, 3) := by decide +kernel
theorem dX3_begin_11 : decode yX3_begin.2.1 11 = .ok (.iload_n 3, 1) := by decide +kernel
theorem dX3_begin_12 : decode yX3_begin.2.1 12 = .ok (.iload_n 2, 1) := by decide +kernel
theorem dX3_begin_13 : decode yX3_begin.2.1 13 = .ok (.iastore, 1) := by decide +kernel
theorem dX3_begin_14 : decode yX3_begin.2.1 14 = .ok (.iinc 3 1, 3) := by decide +kernel
theorem dX3_begin_17 : decode yX3_begin.2.1 17 = .ok (.goto (-15), 3) := by decide +kernel
theorem dX3_begin_20 : decode yX3_begin.2.1 20 = .ok (.aload_n 0, 1) := by decide +kernel
theorem dX3_begin_21 : decode yX3_begin.2.1 21 = .ok (.iload_n 1, 1) := by decide +kernel
theorem dX3_begin_22 : decode yX3_begin.2.1 22 = .ok (.putfield 9, 3) := by decide +kernel
theorem dX3_begin_25 : decode yX3_begin.2.1 25 = .ok (.return_, 1) := by decide +kernel
theorem dX3_take_0 : decode yX3_take.2.1 0 = .ok (.aload_n 1, 1) := by decide +kernel
theorem dX3_take_1 : decode yX3_take.2.1 1 = .ok (.iconst 0, 1) := by decide +kernel
theorem dX3_take_2 : decode yX3_take.2.1 2 = .ok (.aload_n 0, 1) := by decide +kernel
theorem dX3_take_3 : decode yX3_take.2.1 3 = .ok (.getfield 15, 3) := by decide +kernel
theorem dX3_take_6 : decode yX3_take.2.1 6 = .ok (.iconst 0, 1) := by decide +kernel
theorem dX3_take_7 : decode yX3_take.2.1 7 = .ok (.iload_n 2, 1) := by decide +kernel
theorem dX3_take_8 : decode yX3_take.2.1 8 = .ok (.invokestatic 19, 3) := by decide +kernel
theorem dX3_take_11 : decode yX3_take.2.1 11 = .ok (.aload_n 0, 1) := by decide +kernel
theorem dX3_take_12 : decode yX3_take.2.1 12 = .ok (.iload_n 2, 1) := by decide +kernel
theorem dX3_take_13 : decode yX3_take.2.1 13 = .ok (.putfield 9, 3) := by decide +kernel
theorem dX3_take_16 : decode yX3_take.2.1 16 = .ok (.iload_n 2, 1) := by decide +kernel
theorem dX3_take_17 : decode yX3_take.2.1 17 = .ok (.ireturn, 1) := by decide +kernel
theorem dX3_mixInto_0 : decode yX3_mixInto.2.1 0 = .ok (.ldc2_w 25, 3) := by decide +kernel
theorem dX3_mixInto_3 : decode yX3_mixInto.2.1 3 = .ok (.lload_n 1, 1) := by decide +kernel
theorem dX3_mixInto_4 : decode yX3_mixInto.2.1 4 = .ok (.lmul, 1) := by decide +kernel
theorem dX3_mixInto_5 : decode yX3_mixInto.2.1 5 = .ok (.aload_n 0, 1) := by decide +kernel
theorem dX3_mixInto_6 : decode yX3_mixInto.2.1 6 = .ok (.getfield 9, 3) := by decide +kernel
theorem dX3_mixInto_9 : decode yX3_mixInto.2.1 9 = .ok (.i2l, 1) := by decide +kernel
theorem dX3_mixInto_10 : decode yX3_mixInto.2.1 10 = .ok (.ladd, 1) := by decide +kernel
theorem dX3_mixInto_11 : decode yX3_mixInto.2.1 11 = .ok (.lstore_n 3, 1) := by decide +kernel
theorem dX3_mixInto_12 : decode yX3_mixInto.2.1 12 = .ok (.iconst 0, 1) := by decide +kernel
theorem dX3_mixInto_13 : decode yX3_mixInto.2.1 13 = .ok (.istore 5, 2) := by decide +kernel
theorem dX3_mixInto_15 : decode yX3_mixInto.2.1 15 = .ok (.iload 5, 2) := by decide +kernel
theorem dX3_mixInto_17 : decode yX3_mixInto.2.1 17 = .ok (.aload_n 0, 1) := by decide +kernel
theorem dX3_mixInto_18 : decode yX3_mixInto.2.1 18 = .ok (.getfield 9, 3) := by decide +kernel
theorem dX3_mixInto_21 : decode yX3_mixInto.2.1 21 = .ok (.if_icmp .ge 24, 3) := by decide +kernel
theorem dX3_mixInto_24 : decode yX3_mixInto.2.1 24 = .ok (.ldc2_w 25, 3) := by decide +kernel
theorem dX3_mixInto_27 : decode yX3_mixInto.2.1 27 = .ok (.lload_n 3, 1) := by decide +kernel
theorem dX3_mixInto_28 : decode yX3_mixInto.2.1 28 = .ok (.lmul, 1) := by decide +kernel
theorem dX3_mixInto_29 : decode yX3_mixInto.2.1 29 = .ok (.aload_n 0, 1) := by decide +kernel
theorem dX3_mixInto_30 : decode yX3_mixInto.2.1 30 = .ok (.getfield 15, 3) := by decide +kernel
theorem dX3_mixInto_33 : decode yX3_mixInto.2.1 33 = .ok (.iload 5, 2) := by decide +kernel
theorem dX3_mixInto_35 : decode yX3_mixInto.2.1 35 = .ok (.iaload, 1) := by decide +kernel
theorem dX3_mixInto_36 : decode yX3_mixInto.2.1 36 = .ok (.i2l, 1) := by decide +kernel
theorem dX3_mixInto_37 : decode yX3_mixInto.2.1 37 = .ok (.ladd, 1) := by decide +kernel
theorem dX3_mixInto_38 : decode yX3_mixInto.2.1 38 = .ok (.lstore_n 3, 1) := by decide +kernel
theorem dX3_mixInto_39 : decode yX3_mixInto.2.1 39 = .ok (.iinc 5 1, 3) := by decide +kernel
theorem dX3_mixInto_42 : decode yX3_mixInto.2.1 42 = .ok (.goto (-27), 3) := by decide +kernel
theorem dX3_mixInto_45 : decode yX3_mixInto.2.1 45 = .ok (.lload_n 3, 1) := by decide +kernel
theorem dX3_mixInto_46 : decode yX3_mixInto.2.1 46 = .ok (.lreturn, 1) := by decide +kernel
theorem dX4_init_0 : decode yX4_init.2.1 0 = .ok (.aload_n 0, 1) := by decide +kernel
theorem dX4_init_1 : decode yX4_init.2.1 1 = .ok (.invokespecial 3, 3) := by decide +kernel
theorem dX4_init_4 : decode yX4_init.2.1 4 = .ok (.aload_n 0, 1) := by decide +kernel
theorem dX4_init_5 : decode yX4_init.2.1 5 = .ok (.new 9, 3) := by decide +kernel
theorem dX4_init_8 : decode yX4_init.2.1 8 = .ok (.dup, 1) := by decide +kernel
theorem dX4_init_9 : decode yX4_init.2.1 9 = .ok (.invokespecial 11, 3) := by decide +kernel
theorem dX4_init_12 : decode yX4_init.2.1 12 = .ok (.putfield 12, 3) := by decide +kernel
theorem dX4_init_15 : decode yX4_init.2.1 15 = .ok (.aload_n 0, 1) := by decide +kernel
theorem dX4_init_16 : decode yX4_init.2.1 16 = .ok (.new 9, 3) := by decide +kernel
theorem dX4_init_19 : decode yX4_init.2.1 19 = .ok (.dup, 1) := by decide +kernel
theorem dX4_init_20 : decode yX4_init.2.1 20 = .ok (.invokespecial 11, 3) := by decide +kernel
theorem dX4_init_23 : decode yX4_init.2.1 23 = .ok (.putfield 18, 3) := by decide +kernel
theorem dX4_init_26 : decode yX4_init.2.1 26 = .ok (.aload_n 0, 1) := by decide +kernel
theorem dX4_init_27 : decode yX4_init.2.1 27 = .ok (.aload_n 1, 1) := by decide +kernel
theorem dX4_init_28 : decode yX4_init.2.1 28 = .ok (.putfield 21, 3) := by decide +kernel
theorem dX4_init_31 : decode yX4_init.2.1 31 = .ok (.return_, 1) := by decide +kernel
theorem dX4_measureParting_0 : decode yX4_measureParting.2.1 0 = .ok (.aload_n 0, 1) := by decide +kernel
theorem dX4_measureParting_1 : decode yX4_measureParting.2.1 1 = .ok (.getfield 12, 3) := by decide +kernel
theorem dX4_measureParting_4 : decode yX4_measureParting.2.1 4 = .ok (.aload_n 1, 1) := by decide +kernel
theorem dX4_measureParting_5 : decode yX4_measureParting.2.1 5 = .ok (.invokevirtual 25, 3) := by decide +kernel
theorem dX4_measureParting_8 : decode yX4_measureParting.2.1 8 = .ok (.aload_n 0, 1) := by decide +kernel
theorem dX4_measureParting_9 : decode yX4_measureParting.2.1 9 = .ok (.getfield 18, 3) := by decide +kernel
theorem dX4_measureParting_12 : decode yX4_measureParting.2.1 12 = .ok (.aload_n 2, 1) := by decide +kernel
theorem dX4_measureParting_13 : decode yX4_measureParting.2.1 13 = .ok (.invokevirtual 25, 3) := by decide +kernel
theorem dX4_measureParting_16 : decode yX4_measureParting.2.1 16 = .ok (.aload_n 1, 1) := by decide +kernel
theorem dX4_measureParting_17 : decode yX4_measureParting.2.1 17 = .ok (.getfield 29, 3) := by decide +kernel
theorem dX4_measureParting_20 : decode yX4_measureParting.2.1 20 = .ok (.istore_n 3, 1) := by decide +kernel
theorem dX4_measureParting_21 : decode yX4_measureParting.2.1 21 = .ok (.iload_n 3, 1) := by decide +kernel
theorem dX4_measureParting_22 : decode yX4_measureParting.2.1 22 = .ok (.ifCond .lt 56, 3) := by decide +kernel
theorem dX4_measureParting_25 : decode yX4_measureParting.2.1 25 = .ok (.aload_n 2, 1) := by decide +kernel
theorem dX4_measureParting_26 : decode yX4_measureParting.2.1 26 = .ok (.getfield 29, 3) := by decide +kernel
theorem dX4_measureParting_29 : decode yX4_measureParting.2.1 29 = .ok (.istore 4, 2) := by decide +kernel
theorem dX4_measureParting_31 : decode yX4_measureParting.2.1 31 = .ok (.iload 4, 2) := by decide +kernel
theorem dX4_measureParting_33 : decode yX4_measureParting.2.1 33 = .ok (.ifCond .lt 39, 3) := by decide +kernel
theorem dX4_measureParting_36 : decode yX4_measureParting.2.1 36 = .ok (.aload_n 1, 1) := by decide +kernel
theorem dX4_measureParting_37 : decode yX4_measureParting.2.1 37 = .ok (.iload_n 3, 1) := by decide +kernel
theorem dX4_measureParting_38 : decode yX4_measureParting.2.1 38 = .ok (.aload_n 2, 1) := by decide +kernel
theorem dX4_measureParting_39 : decode yX4_measureParting.2.1 39 = .ok (.iload 4, 2) := by decide +kernel
theorem dX4_measureParting_41 : decode yX4_measureParting.2.1 41 = .ok (.invokestatic 35, 3) := by decide +kernel
theorem dX4_measureParting_44 : decode yX4_measureParting.2.1 44 = .ok (.ifCond .eq 22, 3) := by decide +kernel
theorem dX4_measureParting_47 : decode yX4_measureParting.2.1 47 = .ok (.aload_n 0, 1) := by decide +kernel
theorem dX4_measureParting_48 : decode yX4_measureParting.2.1 48 = .ok (.getfield 21, 3) := by decide +kernel
theorem dX4_measureParting_51 : decode yX4_measureParting.2.1 51 = .ok (.iload_n 3, 1) := by decide +kernel
theorem dX4_measureParting_52 : decode yX4_measureParting.2.1 52 = .ok (.bipush 41, 2) := by decide +kernel
theorem dX4_measureParting_54 : decode yX4_measureParting.2.1 54 = .ok (.imul, 1) := by decide +kernel
theorem dX4_measureParting_55 : decode yX4_measureParting.2.1 55 = .ok (.iload 4, 2) := by decide +kernel
theorem dX4_measureParting_57 : decode yX4_measureParting.2.1 57 = .ok (.iadd, 1) := by decide +kernel
theorem dX4_measureParting_58 : decode yX4_measureParting.2.1 58 = .ok (.aload_n 0, 1) := by decide +kernel
theorem dX4_measureParting_59 : decode yX4_measureParting.2.1 59 = .ok (.iload_n 3, 1) := by decide +kernel
theorem dX4_measureParting_60 : decode yX4_measureParting.2.1 60 = .ok (.iload 4, 2) := by decide +kernel
theorem dX4_measureParting_62 : decode yX4_measureParting.2.1 62 = .ok (.invokevirtual 39, 3) := by decide +kernel
theorem dX4_measureParting_65 : decode yX4_measureParting.2.1 65 = .ok (.lastore, 1) := by decide +kernel
theorem dX4_measureParting_66 : decode yX4_measureParting.2.1 66 = .ok (.iinc 4 (-1), 3) := by decide +kernel
theorem dX4_measureParting_69 : decode yX4_measureParting.2.1 69 = .ok (.goto (-38), 3) := by decide +kernel
theorem dX4_measureParting_72 : decode yX4_measureParting.2.1 72 = .ok (.iinc 3 (-1), 3) := by decide +kernel
theorem dX4_measureParting_75 : decode yX4_measureParting.2.1 75 = .ok (.goto (-54), 3) := by decide +kernel
theorem dX4_measureParting_78 : decode yX4_measureParting.2.1 78 = .ok (.aload_n 0, 1) := by decide +kernel
theorem dX4_measureParting_79 : decode yX4_measureParting.2.1 79 = .ok (.getfield 21, 3) := by decide +kernel
theorem dX4_measureParting_82 : decode yX4_measureParting.2.1 82 = .ok (.iconst 0, 1) := by decide +kernel
theorem dX4_measureParting_83 : decode yX4_measureParting.2.1 83 = .ok (.laload, 1) := by decide +kernel
theorem dX4_measureParting_84 : decode yX4_measureParting.2.1 84 = .ok (.l2i, 1) := by decide +kernel
theorem dX4_measureParting_85 : decode yX4_measureParting.2.1 85 = .ok (.ireturn, 1) := by decide +kernel
theorem dX4_isReached_0 : decode yX4_isReached.2.1 0 = .ok (.iload_n 1, 1) := by decide +kernel
theorem dX4_isReached_1 : decode yX4_isReached.2.1 1 = .ok (.ifCond .eq 7, 3) := by decide +kernel
theorem dX4_isReached_4 : decode yX4_isReached.2.1 4 = .ok (.iload_n 3, 1) := by decide +kernel
theorem dX4_isReached_5 : decode yX4_isReached.2.1 5 = .ok (.ifCond .ne 14, 3) := by decide +kernel
theorem dX4_isReached_8 : decode yX4_isReached.2.1 8 = .ok (.iload_n 1, 1) := by decide +kernel
theorem dX4_isReached_9 : decode yX4_isReached.2.1 9 = .ok (.iload_n 3, 1) := by decide +kernel
theorem dX4_isReached_10 : decode yX4_isReached.2.1 10 = .ok (.if_icmp .ne 7, 3) := by decide +kernel
theorem dX4_isReached_13 : decode yX4_isReached.2.1 13 = .ok (.iconst 1, 1) := by decide +kernel
theorem dX4_isReached_14 : decode yX4_isReached.2.1 14 = .ok (.goto 4, 3) := by decide +kernel
theorem dX4_isReached_17 : decode yX4_isReached.2.1 17 = .ok (.iconst 0, 1) := by decide +kernel
theorem dX4_isReached_18 : decode yX4_isReached.2.1 18 = .ok (.ireturn, 1) := by decide +kernel
theorem dX4_isReached_19 : decode yX4_isReached.2.1 19 = .ok (.aload_n 0, 1) := by decide +kernel
theorem dX4_isReached_20 : decode yX4_isReached.2.1 20 = .ok (.getfield 43, 3) := by decide +kernel
theorem dX4_isReached_23 : decode yX4_isReached.2.1 23 = .ok (.iload_n 1, 1) := by decide +kernel
theorem dX4_isReached_24 : decode yX4_isReached.2.1 24 = .ok (.iconst 1, 1) := by decide +kernel
theorem dX4_isReached_25 : decode yX4_isReached.2.1 25 = .ok (.isub, 1) := by decide +kernel
theorem dX4_isReached_26 : decode yX4_isReached.2.1 26 = .ok (.iaload, 1) := by decide +kernel
theorem dX4_isReached_27 : decode yX4_isReached.2.1 27 = .ok (.aload_n 2, 1) := by decide +kernel
theorem dX4_isReached_28 : decode yX4_isReached.2.1 28 = .ok (.getfield 43, 3) := by decide +kernel
theorem dX4_isReached_31 : decode yX4_isReached.2.1 31 = .ok (.iload_n 3, 1) := by decide +kernel
theorem dX4_isReached_32 : decode yX4_isReached.2.1 32 = .ok (.iconst 1, 1) := by decide +kernel
theorem dX4_isReached_33 : decode yX4_isReached.2.1 33 = .ok (.isub, 1) := by decide +kernel
theorem dX4_isReached_34 : decode yX4_isReached.2.1 34 = .ok (.iaload, 1) := by decide +kernel
theorem dX4_isReached_35 : decode yX4_isReached.2.1 35 = .ok (.if_icmp .ne 7, 3) := by decide +kernel
theorem dX4_isReached_38 : decode yX4_isReached.2.1 38 = .ok (.iconst 1, 1) := by decide +kernel
theorem dX4_isReached_39 : decode yX4_isReached.2.1 39 = .ok (.goto 4, 3) := by decide +kernel
theorem dX4_isReached_42 : decode yX4_isReached.2.1 42 = .ok (.iconst 0, 1) := by decide +kernel
theorem dX4_isReached_43 : decode yX4_isReached.2.1 43 = .ok (.ireturn, 1) := by decide +kernel
theorem dX4_shortestParting_0 : decode yX4_shortestParting.2.1 0 = .ok (.lconst 0, 1) := by decide +kernel
theorem dX4_shortestParting_1 : decode yX4_shortestParting.2.1 1 = .ok (.lstore_n 3, 1) := by decide +kernel
theorem dX4_shortestParting_2 : decode yX4_shortestParting.2.1 2 = .ok (.iconst 0, 1) := by decide +kernel
theorem dX4_shortestParting_3 : decode yX4_shortestParting.2.1 3 = .ok (.istore 5, 2) := by decide +kernel
theorem dX4_shortestParting_5 : decode yX4_shortestParting.2.1 5 = .ok (.iload 5, 2) := by decide +kernel
theorem dX4_shortestParting_7 : decode yX4_shortestParting.2.1 7 = .ok (.bipush 6, 2) := by decide +kernel
theorem dX4_shortestParting_9 : decode yX4_shortestParting.2.1 9 = .ok (.if_icmp .ge 42, 3) := by decide +kernel
theorem dX4_shortestParting_12 : decode yX4_shortestParting.2.1 12 = .ok (.aload_n 0, 1) := by decide +kernel
theorem dX4_shortestParting_13 : decode yX4_shortestParting.2.1 13 = .ok (.iload_n 1, 1) := by decide +kernel
theorem dX4_shortestParting_14 : decode yX4_shortestParting.2.1 14 = .ok (.iload_n 2, 1) := by decide +kernel
theorem dX4_shortestParting_15 : decode yX4_shortestParting.2.1 15 = .ok (.iload 5, 2) := by decide +kernel
theorem dX4_shortestParting_17 : decode yX4_shortestParting.2.1 17 = .ok (.invokevirtual 47, 3) := by decide +kernel
theorem dX4_shortestParting_20 : decode yX4_shortestParting.2.1 20 = .ok (.lstore 6, 2) := by decide +kernel
theorem dX4_shortestParting_22 : decode yX4_shortestParting.2.1 22 = .ok (.lload 6, 2) := by decide +kernel
theorem dX4_shortestParting_24 : decode yX4_shortestParting.2.1 24 = .ok (.lconst 0, 1) := by decide +kernel
theorem dX4_shortestParting_25 : decode yX4_shortestParting.2.1 25 = .ok (.lcmp, 1) := by decide +kernel
theorem dX4_shortestParting_26 : decode yX4_shortestParting.2.1 26 = .ok (.ifCond .le 19, 3) := by decide +kernel
theorem dX4_shortestParting_29 : decode yX4_shortestParting.2.1 29 = .ok (.lload_n 3, 1) := by decide +kernel
theorem dX4_shortestParting_30 : decode yX4_shortestParting.2.1 30 = .ok (.lconst 0, 1) := by decide +kernel
theorem dX4_shortestParting_31 : decode yX4_shortestParting.2.1 31 = .ok (.lcmp, 1) := by decide +kernel
theorem dX4_shortestParting_32 : decode yX4_shortestParting.2.1 32 = .ok (.ifCond .eq 10, 3) := by decide +kernel
theorem dX4_shortestParting_35 : decode yX4_shortestParting.2.1 35 = .ok (.lload 6, 2) := by decide +kernel
theorem dX4_shortestParting_37 : decode yX4_shortestParting.2.1 37 = .ok (.lload_n 3, 1) := by decide +kernel
theorem dX4_shortestParting_38 : decode yX4_shortestParting.2.1 38 = .ok (.lcmp, 1) := by decide +kernel
theorem dX4_shortestParting_39 : decode yX4_shortestParting.2.1 39 = .ok (.ifCond .ge 6, 3) := by decide +kernel
theorem dX4_shortestParting_42 : decode yX4_shortestParting.2.1 42 = .ok (.lload 6, 2) := by decide +kernel
theorem dX4_shortestParting_44 : decode yX4_shortestParting.2.1 44 = .ok (.lstore_n 3, 1) := by decide +kernel
theorem dX4_shortestParting_45 : decode yX4_shortestParting.2.1 45 = .ok (.iinc 5 1, 3) := by decide +kernel
theorem dX4_shortestParting_48 : decode yX4_shortestParting.2.1 48 = .ok (.goto (-43), 3) := by decide +kernel
theorem dX4_shortestParting_51 : decode yX4_shortestParting.2.1 51 = .ok (.lload_n 3, 1) := by decide +kernel
theorem dX4_shortestParting_52 : decode yX4_shortestParting.2.1 52 = .ok (.lreturn, 1) := by decide +kernel
theorem dX4_partingFrom_0 : decode yX4_partingFrom.2.1 0 = .ok (.aload_n 0, 1) := by decide +kernel
theorem dX4_partingFrom_1 : decode yX4_partingFrom.2.1 1 = .ok (.getfield 12, 3) := by decide +kernel
theorem dX4_partingFrom_4 : decode yX4_partingFrom.2.1 4 = .ok (.iload_n 1, 1) := by decide +kernel
theorem dX4_partingFrom_5 : decode yX4_partingFrom.2.1 5 = .ok (.iload_n 3, 1) := by decide +kernel
theorem dX4_partingFrom_6 : decode yX4_partingFrom.2.1 6 = .ok (.invokevirtual 51, 3) := by decide +kernel
theorem dX4_partingFrom_9 : decode yX4_partingFrom.2.1 9 = .ok (.istore 4, 2) := by decide +kernel
theorem dX4_partingFrom_11 : decode yX4_partingFrom.2.1 11 = .ok (.aload_n 0, 1) := by decide +kernel
theorem dX4_partingFrom_12 : decode yX4_partingFrom.2.1 12 = .ok (.getfield 18, 3) := by decide +kernel
theorem dX4_partingFrom_15 : decode yX4_partingFrom.2.1 15 = .ok (.iload_n 2, 1) := by decide +kernel
theorem dX4_partingFrom_16 : decode yX4_partingFrom.2.1 16 = .ok (.iload_n 3, 1) := by decide +kernel
theorem dX4_partingFrom_17 : decode yX4_partingFrom.2.1 17 = .ok (.invokevirtual 51, 3) := by decide +kernel
theorem dX4_partingFrom_20 : decode yX4_partingFrom.2.1 20 = .ok (.istore 5, 2) := by decide +kernel
theorem dX4_partingFrom_22 : decode yX4_partingFrom.2.1 22 = .ok (.iload 4, 2) := by decide +kernel
theorem dX4_partingFrom_24 : decode yX4_partingFrom.2.1 24 = .ok (.ifCond .eq 8, 3) := by decide +kernel
theorem dX4_partingFrom_27 : decode yX4_partingFrom.2.1 27 = .ok (.iload 5, 2) := by decide +kernel
theorem dX4_partingFrom_29 : decode yX4_partingFrom.2.1 29 = .ok (.ifCond .ne 16, 3) := by decide +kernel
theorem dX4_partingFrom_32 : decode yX4_partingFrom.2.1 32 = .ok (.iload 4, 2) := by decide +kernel
theorem dX4_partingFrom_34 : decode yX4_partingFrom.2.1 34 = .ok (.iload 5, 2) := by decide +kernel
theorem dX4_partingFrom_36 : decode yX4_partingFrom.2.1 36 = .ok (.if_icmp .ne 7, 3) := by decide +kernel
theorem dX4_partingFrom_39 : decode yX4_partingFrom.2.1 39 = .ok (.lconst 0, 1) := by decide +kernel
theorem dX4_partingFrom_40 : decode yX4_partingFrom.2.1 40 = .ok (.goto 4, 3) := by decide +kernel
theorem dX4_partingFrom_43 : decode yX4_partingFrom.2.1 43 = .ok (.lconst 1, 1) := by decide +kernel
theorem dX4_partingFrom_44 : decode yX4_partingFrom.2.1 44 = .ok (.lreturn, 1) := by decide +kernel
theorem dX4_partingFrom_45 : decode yX4_partingFrom.2.1 45 = .ok (.aload_n 0, 1) := by decide +kernel
theorem dX4_partingFrom_46 : decode yX4_partingFrom.2.1 46 = .ok (.getfield 21, 3) := by decide +kernel
theorem dX4_partingFrom_49 : decode yX4_partingFrom.2.1 49 = .ok (.iload 4, 2) := by decide +kernel
theorem dX4_partingFrom_51 : decode yX4_partingFrom.2.1 51 = .ok (.bipush 41, 2) := by decide +kernel
theorem dX4_partingFrom_53 : decode yX4_partingFrom.2.1 53 = .ok (.imul, 1) := by decide +kernel
theorem dX4_partingFrom_54 : decode yX4_partingFrom.2.1 54 = .ok (.iload 5, 2) := by decide +kernel
theorem dX4_partingFrom_56 : decode yX4_partingFrom.2.1 56 = .ok (.iadd, 1) := by decide +kernel
theorem dX4_partingFrom_57 : decode yX4_partingFrom.2.1 57 = .ok (.laload, 1) := by decide +kernel
theorem dX4_partingFrom_58 : decode yX4_partingFrom.2.1 58 = .ok (.lstore 6, 2) := by decide +kernel
theorem dX4_partingFrom_60 : decode yX4_partingFrom.2.1 60 = .ok (.lload 6, 2) := by decide +kernel
theorem dX4_partingFrom_62 : decode yX4_partingFrom.2.1 62 = .ok (.lconst 0, 1) := by decide +kernel
theorem dX4_partingFrom_63 : decode yX4_partingFrom.2.1 63 = .ok (.lcmp, 1) := by decide +kernel
theorem dX4_partingFrom_64 : decode yX4_partingFrom.2.1 64 = .ok (.ifCond .ne 7, 3) := by decide +kernel
theorem dX4_partingFrom_67 : decode yX4_partingFrom.2.1 67 = .ok (.lconst 0, 1) := by decide +kernel
theorem dX4_partingFrom_68 : decode yX4_partingFrom.2.1 68 = .ok (.goto 7, 3) := by decide +kernel
theorem dX4_partingFrom_71 : decode yX4_partingFrom.2.1 71 = .ok (.lload 6, 2) := by decide +kernel
theorem dX4_partingFrom_73 : decode yX4_partingFrom.2.1 73 = .ok (.lconst 1, 1) := by decide +kernel
theorem dX4_partingFrom_74 : decode yX4_partingFrom.2.1 74 = .ok (.ladd, 1) := by decide +kernel
theorem dX4_partingFrom_75 : decode yX4_partingFrom.2.1 75 = .ok (.lreturn, 1) := by decide +kernel
theorem dX4_firstParting_0 : decode yX4_firstParting.2.1 0 = .ok (.iconst 0, 1) := by decide +kernel
theorem dX4_firstParting_1 : decode yX4_firstParting.2.1 1 = .ok (.istore_n 3, 1) := by decide +kernel
theorem dX4_firstParting_2 : decode yX4_firstParting.2.1 2 = .ok (.iconst 0, 1) := by decide +kernel
theorem dX4_firstParting_3 : decode yX4_firstParting.2.1 3 = .ok (.istore 4, 2) := by decide +kernel
theorem dX4_firstParting_5 : decode yX4_firstParting.2.1 5 = .ok (.iconst 0, 1) := by decide +kernel
theorem dX4_firstParting_6 : decode yX4_firstParting.2.1 6 = .ok (.istore 5, 2) := by decide +kernel
theorem dX4_firstParting_8 : decode yX4_firstParting.2.1 8 = .ok (.iload 5, 2) := by decide +kernel
theorem dX4_firstParting_10 : decode yX4_firstParting.2.1 10 = .ok (.iload_n 1, 1) := by decide +kernel
theorem dX4_firstParting_11 : decode yX4_firstParting.2.1 11 = .ok (.if_icmp .ge 72, 3) := by decide +kernel
theorem dX4_firstParting_14 : decode yX4_firstParting.2.1 14 = .ok (.iconst 0, 1) := by decide +kernel
theorem dX4_firstParting_15 : decode yX4_firstParting.2.1 15 = .ok (.istore 6, 2) := by decide +kernel
theorem dX4_firstParting_17 : decode yX4_firstParting.2.1 17 = .ok (.iload 6, 2) := by decide +kernel
theorem dX4_firstParting_19 : decode yX4_firstParting.2.1 19 = .ok (.iconst 5, 1) := by decide +kernel
theorem dX4_firstParting_20 : decode yX4_firstParting.2.1 20 = .ok (.if_icmp .ge 27, 3) := by decide +kernel
theorem dX4_firstParting_23 : decode yX4_firstParting.2.1 23 = .ok (.aload_n 0, 1) := by decide +kernel
theorem dX4_firstParting_24 : decode yX4_firstParting.2.1 24 = .ok (.iload_n 3, 1) := by decide +kernel
theorem dX4_firstParting_25 : decode yX4_firstParting.2.1 25 = .ok (.iload 4, 2) := by decide +kernel
theorem dX4_firstParting_27 : decode yX4_firstParting.2.1 27 = .ok (.iload 6, 2) := by decide +kernel
theorem dX4_firstParting_29 : decode yX4_firstParting.2.1 29 = .ok (.invokevirtual 47, 3) := by decide +kernel
theorem dX4_firstParting_32 : decode yX4_firstParting.2.1 32 = .ok (.iload_n 1, 1) := by decide +kernel
theorem dX4_firstParting_33 : decode yX4_firstParting.2.1 33 = .ok (.iload 5, 2) := by decide +kernel
theorem dX4_firstParting_35 : decode yX4_firstParting.2.1 35 = .ok (.isub, 1) := by decide +kernel
theorem dX4_firstParting_36 : decode yX4_firstParting.2.1 36 = .ok (.i2l, 1) := by decide +kernel
theorem dX4_firstParting_37 : decode yX4_firstParting.2.1 37 = .ok (.lcmp, 1) := by decide +kernel
theorem dX4_firstParting_38 : decode yX4_firstParting.2.1 38 = .ok (.ifCond .eq 9, 3) := by decide +kernel
theorem dX4_firstParting_41 : decode yX4_firstParting.2.1 41 = .ok (.iinc 6 1, 3) := by decide +kernel
theorem dX4_firstParting_44 : decode yX4_firstParting.2.1 44 = .ok (.goto (-27), 3) := by decide +kernel
theorem dX4_firstParting_47 : decode yX4_firstParting.2.1 47 = .ok (.aload_n 2, 1) := by decide +kernel
theorem dX4_firstParting_48 : decode yX4_firstParting.2.1 48 = .ok (.iload 5, 2) := by decide +kernel
theorem dX4_firstParting_50 : decode yX4_firstParting.2.1 50 = .ok (.iload 6, 2) := by decide +kernel
theorem dX4_firstParting_52 : decode yX4_firstParting.2.1 52 = .ok (.iastore, 1) := by decide +kernel
theorem dX4_firstParting_53 : decode yX4_firstParting.2.1 53 = .ok (.aload_n 0, 1) := by decide +kernel
theorem dX4_firstParting_54 : decode yX4_firstParting.2.1 54 = .ok (.getfield 12, 3) := by decide +kernel
theorem dX4_firstParting_57 : decode yX4_firstParting.2.1 57 = .ok (.iload_n 3, 1) := by decide +kernel
theorem dX4_firstParting_58 : decode yX4_firstParting.2.1 58 = .ok (.iload 6, 2) := by decide +kernel
theorem dX4_firstParting_60 : decode yX4_firstParting.2.1 60 = .ok (.invokevirtual 51, 3) := by decide +kernel
theorem dX4_firstParting_63 : decode yX4_firstParting.2.1 63 = .ok (.istore_n 3, 1) := by decide +kernel
theorem dX4_firstParting_64 : decode yX4_firstParting.2.1 64 = .ok (.aload_n 0, 1) := by decide +kernel
theorem dX4_firstParting_65 : decode yX4_firstParting.2.1 65 = .ok (.getfield 18, 3) := by decide +kernel
theorem dX4_firstParting_68 : decode yX4_firstParting.2.1 68 = .ok (.iload 4, 2) := by decide +kernel
theorem dX4_firstParting_70 : decode yX4_firstParting.2.1 70 = .ok (.iload 6, 2) := by decide +kernel
theorem dX4_firstParting_72 : decode yX4_firstParting.2.1 72 = .ok (.invokevirtual 51, 3) := by decide +kernel
theorem dX4_firstParting_75 : decode yX4_firstParting.2.1 75 = .ok (.istore 4, 2) := by decide +kernel
theorem dX4_firstParting_77 : decode yX4_firstParting.2.1 77 = .ok (.iinc 5 1, 3) := by decide +kernel
theorem dX4_firstParting_80 : decode yX4_firstParting.2.1 80 = .ok (.goto (-72), 3) := by decide +kernel
theorem dX4_firstParting_83 : decode yX4_firstParting.2.1 83 = .ok (.return_, 1) := by decide +kernel
theorem dX4_countShared_0 : decode yX4_countShared.2.1 0 = .ok (.aload_n 0, 1) := by decide +kernel
theorem dX4_countShared_1 : decode yX4_countShared.2.1 1 = .ok (.getfield 12, 3) := by decide +kernel
theorem dX4_countShared_4 : decode yX4_countShared.2.1 4 = .ok (.aload_n 1, 1) := by decide +kernel
theorem dX4_countShared_5 : decode yX4_countShared.2.1 5 = .ok (.invokevirtual 25, 3) := by decide +kernel
theorem dX4_countShared_8 : decode yX4_countShared.2.1 8 = .ok (.aload_n 0, 1) := by decide +kernel
theorem dX4_countShared_9 : decode yX4_countShared.2.1 9 = .ok (.getfield 18, 3) := by decide +kernel
theorem dX4_countShared_12 : decode yX4_countShared.2.1 12 = .ok (.aload_n 2, 1) := by decide +kernel
theorem dX4_countShared_13 : decode yX4_countShared.2.1 13 = .ok (.invokevirtual 25, 3) := by decide +kernel
theorem dX4_countShared_16 : decode yX4_countShared.2.1 16 = .ok (.aload_n 1, 1) := by decide +kernel
theorem dX4_countShared_17 : decode yX4_countShared.2.1 17 = .ok (.getfield 29, 3) := by decide +kernel
theorem dX4_countShared_20 : decode yX4_countShared.2.1 20 = .ok (.istore_n 3, 1) := by decide +kernel
theorem dX4_countShared_21 : decode yX4_countShared.2.1 21 = .ok (.iload_n 3, 1) := by decide +kernel
theorem dX4_countShared_22 : decode yX4_countShared.2.1 22 = .ok (.ifCond .lt 56, 3) := by decide +kernel
theorem dX4_countShared_25 : decode yX4_countShared.2.1 25 = .ok (.aload_n 2, 1) := by decide +kernel
theorem dX4_countShared_26 : decode yX4_countShared.2.1 26 = .ok (.getfield 29, 3) := by decide +kernel
theorem dX4_countShared_29 : decode yX4_countShared.2.1 29 = .ok (.istore 4, 2) := by decide +kernel
theorem dX4_countShared_31 : decode yX4_countShared.2.1 31 = .ok (.iload 4, 2) := by decide +kernel
theorem dX4_countShared_33 : decode yX4_countShared.2.1 33 = .ok (.ifCond .lt 39, 3) := by decide +kernel
theorem dX4_countShared_36 : decode yX4_countShared.2.1 36 = .ok (.aload_n 1, 1) := by decide +kernel
theorem dX4_countShared_37 : decode yX4_countShared.2.1 37 = .ok (.iload_n 3, 1) := by decide +kernel
theorem dX4_countShared_38 : decode yX4_countShared.2.1 38 = .ok (.aload_n 2, 1) := by decide +kernel
theorem dX4_countShared_39 : decode yX4_countShared.2.1 39 = .ok (.iload 4, 2) := by decide +kernel
theorem dX4_countShared_41 : decode yX4_countShared.2.1 41 = .ok (.invokestatic 35, 3) := by decide +kernel
theorem dX4_countShared_44 : decode yX4_countShared.2.1 44 = .ok (.ifCond .eq 22, 3) := by decide +kernel
theorem dX4_countShared_47 : decode yX4_countShared.2.1 47 = .ok (.aload_n 0, 1) := by decide +kernel
theorem dX4_countShared_48 : decode yX4_countShared.2.1 48 = .ok (.getfield 21, 3) := by decide +kernel
theorem dX4_countShared_51 : decode yX4_countShared.2.1 51 = .ok (.iload_n 3, 1) := by decide +kernel
theorem dX4_countShared_52 : decode yX4_countShared.2.1 52 = .ok (.bipush 41, 2) := by decide +kernel
theorem dX4_countShared_54 : decode yX4_countShared.2.1 54 = .ok (.imul, 1) := by decide +kernel
theorem dX4_countShared_55 : decode yX4_countShared.2.1 55 = .ok (.iload 4, 2) := by decide +kernel
theorem dX4_countShared_57 : decode yX4_countShared.2.1 57 = .ok (.iadd, 1) := by decide +kernel
theorem dX4_countShared_58 : decode yX4_countShared.2.1 58 = .ok (.aload_n 0, 1) := by decide +kernel
theorem dX4_countShared_59 : decode yX4_countShared.2.1 59 = .ok (.iload_n 3, 1) := by decide +kernel
theorem dX4_countShared_60 : decode yX4_countShared.2.1 60 = .ok (.iload 4, 2) := by decide +kernel
theorem dX4_countShared_62 : decode yX4_countShared.2.1 62 = .ok (.invokevirtual 55, 3) := by decide +kernel
theorem dX4_countShared_65 : decode yX4_countShared.2.1 65 = .ok (.lastore, 1) := by decide +kernel
theorem dX4_countShared_66 : decode yX4_countShared.2.1 66 = .ok (.iinc 4 (-1), 3) := by decide +kernel
theorem dX4_countShared_69 : decode yX4_countShared.2.1 69 = .ok (.goto (-38), 3) := by decide +kernel
theorem dX4_countShared_72 : decode yX4_countShared.2.1 72 = .ok (.iinc 3 (-1), 3) := by decide +kernel
theorem dX4_countShared_75 : decode yX4_countShared.2.1 75 = .ok (.goto (-54), 3) := by decide +kernel
theorem dX4_countShared_78 : decode yX4_countShared.2.1 78 = .ok (.aload_n 0, 1) := by decide +kernel
theorem dX4_countShared_79 : decode yX4_countShared.2.1 79 = .ok (.getfield 21, 3) := by decide +kernel
theorem dX4_countShared_82 : decode yX4_countShared.2.1 82 = .ok (.iconst 0, 1) := by decide +kernel
theorem dX4_countShared_83 : decode yX4_countShared.2.1 83 = .ok (.laload, 1) := by decide +kernel
theorem dX4_countShared_84 : decode yX4_countShared.2.1 84 = .ok (.lreturn, 1) := by decide +kernel
theorem dX4_sharedFrom_0 : decode yX4_sharedFrom.2.1 0 = .ok (.lconst 1, 1) := by decide +kernel
theorem dX4_sharedFrom_1 : decode yX4_sharedFrom.2.1 1 = .ok (.lstore_n 3, 1) := by decide +kernel
theorem dX4_sharedFrom_2 : decode yX4_sharedFrom.2.1 2 = .ok (.iconst 0, 1) := by decide +kernel
theorem dX4_sharedFrom_3 : decode yX4_sharedFrom.2.1 3 = .ok (.istore 5, 2) := by decide +kernel
theorem dX4_sharedFrom_5 : decode yX4_sharedFrom.2.1 5 = .ok (.iload 5, 2) := by decide +kernel
theorem dX4_sharedFrom_7 : decode yX4_sharedFrom.2.1 7 = .ok (.bipush 6, 2) := by decide +kernel
theorem dX4_sharedFrom_9 : decode yX4_sharedFrom.2.1 9 = .ok (.if_icmp .ge 59, 3) := by decide +kernel
theorem dX4_sharedFrom_12 : decode yX4_sharedFrom.2.1 12 = .ok (.aload_n 0, 1) := by decide +kernel
theorem dX4_sharedFrom_13 : decode yX4_sharedFrom.2.1 13 = .ok (.getfield 12, 3) := by decide +kernel
theorem dX4_sharedFrom_16 : decode yX4_sharedFrom.2.1 16 = .ok (.iload_n 1, 1) := by decide +kernel
theorem dX4_sharedFrom_17 : decode yX4_sharedFrom.2.1 17 = .ok (.iload 5, 2) := by decide +kernel
theorem dX4_sharedFrom_19 : decode yX4_sharedFrom.2.1 19 = .ok (.invokevirtual 51, 3) := by decide +kernel
theorem dX4_sharedFrom_22 : decode yX4_sharedFrom.2.1 22 = .ok (.istore 6, 2) := by decide +kernel
theorem dX4_sharedFrom_24 : decode yX4_sharedFrom.2.1 24 = .ok (.aload_n 0, 1) := by decide +kernel
theorem dX4_sharedFrom_25 : decode yX4_sharedFrom.2.1 25 = .ok (.getfield 18, 3) := by decide +kernel
theorem dX4_sharedFrom_28 : decode yX4_sharedFrom.2.1 28 = .ok (.iload_n 2, 1) := by decide +kernel
theorem dX4_sharedFrom_29 : decode yX4_sharedFrom.2.1 29 = .ok (.iload 5, 2) := by decide +kernel
theorem dX4_sharedFrom_31 : decode yX4_sharedFrom.2.1 31 = .ok (.invokevirtual 51, 3) := by decide +kernel
theorem dX4_sharedFrom_34 : decode yX4_sharedFrom.2.1 34 = .ok (.istore 7, 2) := by decide +kernel
theorem dX4_sharedFrom_36 : decode yX4_sharedFrom.2.1 36 = .ok (.iload 6, 2) := by decide +kernel
theorem dX4_sharedFrom_38 : decode yX4_sharedFrom.2.1 38 = .ok (.ifCond .eq 24, 3) := by decide +kernel
theorem dX4_sharedFrom_41 : decode yX4_sharedFrom.2.1 41 = .ok (.iload 7, 2) := by decide +kernel
theorem dX4_sharedFrom_43 : decode yX4_sharedFrom.2.1 43 = .ok (.ifCond .eq 19, 3) := by decide +kernel
theorem dX4_sharedFrom_46 : decode yX4_sharedFrom.2.1 46 = .ok (.lload_n 3, 1) := by decide +kernel
theorem dX4_sharedFrom_47 : decode yX4_sharedFrom.2.1 47 = .ok (.aload_n 0, 1) := by decide +kernel
theorem dX4_sharedFrom_48 : decode yX4_sharedFrom.2.1 48 = .ok (.getfield 21, 3) := by decide +kernel
theorem dX4_sharedFrom_51 : decode yX4_sharedFrom.2.1 51 = .ok (.iload 6, 2) := by decide +kernel
theorem dX4_sharedFrom_53 : decode yX4_sharedFrom.2.1 53 = .ok (.bipush 41, 2) := by decide +kernel
theorem dX4_sharedFrom_55 : decode yX4_sharedFrom.2.1 55 = .ok (.imul, 1) := by decide +kernel
theorem dX4_sharedFrom_56 : decode yX4_sharedFrom.2.1 56 = .ok (.iload 7, 2) := by decide +kernel
theorem dX4_sharedFrom_58 : decode yX4_sharedFrom.2.1 58 = .ok (.iadd, 1) := by decide +kernel
theorem dX4_sharedFrom_59 : decode yX4_sharedFrom.2.1 59 = .ok (.laload, 1) := by decide +kernel
theorem dX4_sharedFrom_60 : decode yX4_sharedFrom.2.1 60 = .ok (.ladd, 1) := by decide +kernel
theorem dX4_sharedFrom_61 : decode yX4_sharedFrom.2.1 61 = .ok (.lstore_n 3, 1) := by decide +kernel
theorem dX4_sharedFrom_62 : decode yX4_sharedFrom.2.1 62 = .ok (.iinc 5 1, 3) := by decide +kernel
theorem dX4_sharedFrom_65 : decode yX4_sharedFrom.2.1 65 = .ok (.goto (-60), 3) := by decide +kernel
theorem dX4_sharedFrom_68 : decode yX4_sharedFrom.2.1 68 = .ok (.lload_n 3, 1) := by decide +kernel
theorem dX4_sharedFrom_69 : decode yX4_sharedFrom.2.1 69 = .ok (.lreturn, 1) := by decide +kernel
theorem dX5_init_0 : decode yX5_init.2.1 0 = .ok (.aload_n 0, 1) := by decide +kernel
theorem dX5_init_1 : decode yX5_init.2.1 1 = .ok (.invokespecial 3, 3) := by decide +kernel
theorem dX5_init_4 : decode yX5_init.2.1 4 = .ok (.aload_n 0, 1) := by decide +kernel
theorem dX5_init_5 : decode yX5_init.2.1 5 = .ok (.iconst 4, 1) := by decide +kernel
theorem dX5_init_6 : decode yX5_init.2.1 6 = .ok (.anewarray 9, 3) := by decide +kernel
theorem dX5_init_9 : decode yX5_init.2.1 9 = .ok (.putfield 11, 3) := by decide +kernel
theorem dX5_init_12 : decode yX5_init.2.1 12 = .ok (.aload_n 0, 1) := by decide +kernel
theorem dX5_init_13 : decode yX5_init.2.1 13 = .ok (.iconst 4, 1) := by decide +kernel
theorem dX5_init_14 : decode yX5_init.2.1 14 = .ok (.newarray .int, 2) := by decide +kernel
theorem dX5_init_16 : decode yX5_init.2.1 16 = .ok (.putfield 17, 3) := by decide +kernel
theorem dX5_init_19 : decode yX5_init.2.1 19 = .ok (.aload_n 0, 1) := by decide +kernel
theorem dX5_init_20 : decode yX5_init.2.1 20 = .ok (.iconst 4, 1) := by decide +kernel
theorem dX5_init_21 : decode yX5_init.2.1 21 = .ok (.newarray .int, 2) := by decide +kernel
theorem dX5_init_23 : decode yX5_init.2.1 23 = .ok (.putfield 21, 3) := by decide +kernel
theorem dX5_init_26 : decode yX5_init.2.1 26 = .ok (.aload_n 0, 1) := by decide +kernel
theorem dX5_init_27 : decode yX5_init.2.1 27 = .ok (.bipush 6, 2) := by decide +kernel
theorem dX5_init_29 : decode yX5_init.2.1 29 = .ok (.newarray .int, 2) := by decide +kernel
theorem dX5_init_31 : decode yX5_init.2.1 31 = .ok (.putfield 24, 3) := by decide +kernel
theorem dX5_init_34 : decode yX5_init.2.1 34 = .ok (.return_, 1) := by decide +kernel
theorem dX5_begin_0 : decode yX5_begin.2.1 0 = .ok (.aload_n 0, 1) := by decide +kernel
theorem dX5_begin_1 : decode yX5_begin.2.1 1 = .ok (.iconst 0, 1) := by decide +kernel
theorem dX5_begin_2 : decode yX5_begin.2.1 2 = .ok (.putfield 27, 3) := by decide +kernel
theorem dX5_begin_5 : decode yX5_begin.2.1 5 = .ok (.aload_n 0, 1) := by decide +kernel
theorem dX5_begin_6 : decode yX5_begin.2.1 6 = .ok (.iconst 1, 1) := by decide +kernel
theorem dX5_begin_7 : decode yX5_begin.2.1 7 = .ok (.putfield 31, 3) := by decide +kernel
theorem dX5_begin_10 : decode yX5_begin.2.1 10 = .ok (.return_, 1) := by decide +kernel
theorem dX5_choose_0 : decode yX5_choose.2.1 0 = .ok (.aload_n 0, 1) := by decide +kernel
theorem dX5_choose_1 : decode yX5_choose.2.1 1 = .ok (.getfield 11, 3) := by decide +kernel
theorem dX5_choose_4 : decode yX5_choose.2.1 4 = .ok (.aload_n 0, 1) := by decide +kernel
theorem dX5_choose_5 : decode yX5_choose.2.1 5 = .ok (.getfield 27, 3) := by decide +kernel
theorem dX5_choose_8 : decode yX5_choose.2.1 8 = .ok (.aload_n 1, 1) := by decide +kernel
theorem dX5_choose_9 : decode yX5_choose.2.1 9 = .ok (.aastore, 1) := by decide +kernel
theorem dX5_choose_10 : decode yX5_choose.2.1 10 = .ok (.aload_n 0, 1) := by decide +kernel
theorem dX5_choose_11 : decode yX5_choose.2.1 11 = .ok (.getfield 17, 3) := by decide +kernel
theorem dX5_choose_14 : decode yX5_choose.2.1 14 = .ok (.aload_n 0, 1) := by decide +kernel
theorem dX5_choose_15 : decode yX5_choose.2.1 15 = .ok (.getfield 27, 3) := by decide +kernel
theorem dX5_choose_18 : decode yX5_choose.2.1 18 = .ok (.aload_n 0, 1) := by decide +kernel
theorem dX5_choose_19 : decode yX5_choose.2.1 19 = .ok (.getfield 31, 3) := by decide +kernel
theorem dX5_choose_22 : decode yX5_choose.2.1 22 = .ok (.iastore, 1) := by decide +kernel
theorem dX5_choose_23 : decode yX5_choose.2.1 23 = .ok (.aload_n 0, 1) := by decide +kernel
theorem dX5_choose_24 : decode yX5_choose.2.1 24 = .ok (.dup, 1) := by decide +kernel
theorem dX5_choose_25 : decode yX5_choose.2.1 25 = .ok (.getfield 31, 3) := by decide +kernel
theorem dX5_choose_28 : decode yX5_choose.2.1 28 = .ok (.aload_n 1, 1) := by decide +kernel
theorem dX5_choose_29 : decode yX5_choose.2.1 29 = .ok (.getfield 34, 3) := by decide +kernel
theorem dX5_choose_32 : decode yX5_choose.2.1 32 = .ok (.iconst 1, 1) := by decide +kernel
theorem dX5_choose_33 : decode yX5_choose.2.1 33 = .ok (.iadd, 1) := by decide +kernel
theorem dX5_choose_34 : decode yX5_choose.2.1 34 = .ok (.imul, 1) := by decide +kernel
theorem dX5_choose_35 : decode yX5_choose.2.1 35 = .ok (.putfield 31, 3) := by decide +kernel
theorem dX5_choose_38 : decode yX5_choose.2.1 38 = .ok (.aload_n 0, 1) := by decide +kernel
theorem dX5_choose_39 : decode yX5_choose.2.1 39 = .ok (.dup, 1) := by decide +kernel
theorem dX5_choose_40 : decode yX5_choose.2.1 40 = .ok (.getfield 27, 3) := by decide +kernel
theorem dX5_choose_43 : decode yX5_choose.2.1 43 = .ok (.iconst 1, 1) := by decide +kernel
theorem dX5_choose_44 : decode yX5_choose.2.1 44 = .ok (.iadd, 1) := by decide +kernel
theorem dX5_choose_45 : decode yX5_choose.2.1 45 = .ok (.putfield 27, 3) := by decide +kernel
theorem dX5_choose_48 : decode yX5_choose.2.1 48 = .ok (.return_, 1) := by decide +kernel
theorem dX5_states_0 : decode yX5_states.2.1 0 = .ok (.aload_n 0, 1) := by decide +kernel
theorem dX5_states_1 : decode yX5_states.2.1 1 = .ok (.getfield 31, 3) := by decide +kernel
theorem dX5_states_4 : decode yX5_states.2.1 4 = .ok (.ireturn, 1) := by decide +kernel
theorem dX5_longestCommon_0 : decode yX5_longestCommon.2.1 0 = .ok (.aload_n 0, 1) := by decide +kernel
theorem dX5_longestCommon_1 : decode yX5_longestCommon.2.1 1 = .ok (.invokevirtual 37, 3) := by decide +kernel
theorem dX5_longestCommon_4 : decode yX5_longestCommon.2.1 4 = .ok (.aload_n 0, 1) := by decide +kernel
theorem dX5_longestCommon_5 : decode yX5_longestCommon.2.1 5 = .ok (.getfield 31, 3) := by decide +kernel
theorem dX5_longestCommon_8 : decode yX5_longestCommon.2.1 8 = .ok (.iconst 1, 1) := by decide +kernel
theorem dX5_longestCommon_9 : decode yX5_longestCommon.2.1 9 = .ok (.isub, 1) := by decide +kernel
theorem dX5_longestCommon_10 : decode yX5_longestCommon.2.1 10 = .ok (.istore_n 2, 1) := by decide +kernel
theorem dX5_longestCommon_11 : decode yX5_longestCommon.2.1 11 = .ok (.iload_n 2, 1) := by decide +kernel
theorem dX5_longestCommon_12 : decode yX5_longestCommon.2.1 12 = .ok (.ifCond .lt 24, 3) := by decide +kernel
theorem dX5_longestCommon_15 : decode yX5_longestCommon.2.1 15 = .ok (.aload_n 0, 1) := by decide +kernel
theorem dX5_longestCommon_16 : decode yX5_longestCommon.2.1 16 = .ok (.getfield 40, 3) := by decide +kernel
theorem dX5_longestCommon_19 : decode yX5_longestCommon.2.1 19 = .ok (.iload_n 2, 1) := by decide +kernel
theorem dX5_longestCommon_20 : decode yX5_longestCommon.2.1 20 = .ok (.aload_n 0, 1) := by decide +kernel
theorem dX5_longestCommon_21 : decode yX5_longestCommon.2.1 21 = .ok (.iload_n 2, 1) := by decide +kernel
theorem dX5_longestCommon_22 : decode yX5_longestCommon.2.1 22 = .ok (.invokevirtual 43, 3) := by decide +kernel
theorem dX5_longestCommon_25 : decode yX5_longestCommon.2.1 25 = .ok (.iastore, 1) := by decide +kernel
theorem dX5_longestCommon_26 : decode yX5_longestCommon.2.1 26 = .ok (.aload_n 0, 1) := by decide +kernel
theorem dX5_longestCommon_27 : decode yX5_longestCommon.2.1 27 = .ok (.invokevirtual 47, 3) := by decide +kernel
theorem dX5_longestCommon_30 : decode yX5_longestCommon.2.1 30 = .ok (.iinc 2 (-1), 3) := by decide +kernel
theorem dX5_longestCommon_33 : decode yX5_longestCommon.2.1 33 = .ok (.goto (-22), 3) := by decide +kernel
theorem dX5_longestCommon_36 : decode yX5_longestCommon.2.1 36 = .ok (.aload_n 0, 1) := by decide +kernel
theorem dX5_longestCommon_37 : decode yX5_longestCommon.2.1 37 = .ok (.invokevirtual 50, 3) := by decide +kernel
theorem dX5_longestCommon_40 : decode yX5_longestCommon.2.1 40 = .ok (.aload_n 0, 1) := by decide +kernel
theorem dX5_longestCommon_41 : decode yX5_longestCommon.2.1 41 = .ok (.getfield 40, 3) := by decide +kernel
theorem dX5_longestCommon_44 : decode yX5_longestCommon.2.1 44 = .ok (.iconst 0, 1) := by decide +kernel
theorem dX5_longestCommon_45 : decode yX5_longestCommon.2.1 45 = .ok (.iaload, 1) := by decide +kernel
theorem dX5_longestCommon_46 : decode yX5_longestCommon.2.1 46 = .ok (.istore_n 2, 1) := by decide +kernel
theorem dX5_longestCommon_47 : decode yX5_longestCommon.2.1 47 = .ok (.iconst 0, 1) := by decide +kernel
theorem dX5_longestCommon_48 : decode yX5_longestCommon.2.1 48 = .ok (.istore_n 3, 1) := by decide +kernel
theorem dX5_longestCommon_49 : decode yX5_longestCommon.2.1 49 = .ok (.iload_n 3, 1) := by decide +kernel
theorem dX5_longestCommon_50 : decode yX5_longestCommon.2.1 50 = .ok (.iload_n 2, 1) := by decide +kernel
theorem dX5_longestCommon_51 : decode yX5_longestCommon.2.1 51 = .ok (.if_icmp .ge 21, 3) := by decide +kernel
theorem dX5_longestCommon_54 : decode yX5_longestCommon.2.1 54 = .ok (.aload_n 1, 1) := by decide +kernel
theorem dX5_longestCommon_55 : decode yX5_longestCommon.2.1 55 = .ok (.iload_n 3, 1) := by decide +kernel
theorem dX5_longestCommon_56 : decode yX5_longestCommon.2.1 56 = .ok (.aload_n 0, 1) := by decide +kernel
theorem dX5_longestCommon_57 : decode yX5_longestCommon.2.1 57 = .ok (.iload_n 2, 1) := by decide +kernel
theorem dX5_longestCommon_58 : decode yX5_longestCommon.2.1 58 = .ok (.iconst 1, 1) := by decide +kernel
theorem dX5_longestCommon_59 : decode yX5_longestCommon.2.1 59 = .ok (.isub, 1) := by decide +kernel
theorem dX5_longestCommon_60 : decode yX5_longestCommon.2.1 60 = .ok (.iload_n 3, 1) := by decide +kernel
theorem dX5_longestCommon_61 : decode yX5_longestCommon.2.1 61 = .ok (.isub, 1) := by decide +kernel
theorem dX5_longestCommon_62 : decode yX5_longestCommon.2.1 62 = .ok (.invokevirtual 53, 3) := by decide +kernel
theorem dX5_longestCommon_65 : decode yX5_longestCommon.2.1 65 = .ok (.iastore, 1) := by decide +kernel
theorem dX5_longestCommon_66 : decode yX5_longestCommon.2.1 66 = .ok (.iinc 3 1, 3) := by decide +kernel
theorem dX5_longestCommon_69 : decode yX5_longestCommon.2.1 69 = .ok (.goto (-20), 3) := by decide +kernel
theorem dX5_longestCommon_72 : decode yX5_longestCommon.2.1 72 = .ok (.iload_n 2, 1) := by decide +kernel
theorem dX5_longestCommon_73 : decode yX5_longestCommon.2.1 73 = .ok (.ireturn, 1) := by decide +kernel
theorem dX5_commonFrom_0 : decode yX5_commonFrom.2.1 0 = .ok (.iconst 0, 1) := by decide +kernel
theorem dX5_commonFrom_1 : decode yX5_commonFrom.2.1 1 = .ok (.istore_n 2, 1) := by decide +kernel
theorem dX5_commonFrom_2 : decode yX5_commonFrom.2.1 2 = .ok (.iload_n 1, 1) := by decide +kernel
theorem dX5_commonFrom_3 : decode yX5_commonFrom.2.1 3 = .ok (.istore_n 3, 1) := by decide +kernel
theorem dX5_commonFrom_4 : decode yX5_commonFrom.2.1 4 = .ok (.iconst 1, 1) := by decide +kernel
theorem dX5_commonFrom_5 : decode yX5_commonFrom.2.1 5 = .ok (.istore 4, 2) := by decide +kernel
theorem dX5_commonFrom_7 : decode yX5_commonFrom.2.1 7 = .ok (.iconst 0, 1) := by decide +kernel
theorem dX5_commonFrom_8 : decode yX5_commonFrom.2.1 8 = .ok (.istore 5, 2) := by decide +kernel
theorem dX5_commonFrom_10 : decode yX5_commonFrom.2.1 10 = .ok (.iload 5, 2) := by decide +kernel
theorem dX5_commonFrom_12 : decode yX5_commonFrom.2.1 12 = .ok (.aload_n 0, 1) := by decide +kernel
theorem dX5_commonFrom_13 : decode yX5_commonFrom.2.1 13 = .ok (.getfield 27, 3) := by decide +kernel
theorem dX5_commonFrom_16 : decode yX5_commonFrom.2.1 16 = .ok (.if_icmp .ge 86, 3) := by decide +kernel
theorem dX5_commonFrom_19 : decode yX5_commonFrom.2.1 19 = .ok (.aload_n 0, 1) := by decide +kernel
theorem dX5_commonFrom_20 : decode yX5_commonFrom.2.1 20 = .ok (.getfield 21, 3) := by decide +kernel
theorem dX5_commonFrom_23 : decode yX5_commonFrom.2.1 23 = .ok (.iload 5, 2) := by decide +kernel
theorem dX5_commonFrom_25 : decode yX5_commonFrom.2.1 25 = .ok (.iaload, 1) := by decide +kernel
theorem dX5_commonFrom_26 : decode yX5_commonFrom.2.1 26 = .ok (.aload_n 0, 1) := by decide +kernel
theorem dX5_commonFrom_27 : decode yX5_commonFrom.2.1 27 = .ok (.getfield 11, 3) := by decide +kernel
theorem dX5_commonFrom_30 : decode yX5_commonFrom.2.1 30 = .ok (.iload 5, 2) := by decide +kernel
theorem dX5_commonFrom_32 : decode yX5_commonFrom.2.1 32 = .ok (.aaload, 1) := by decide +kernel
theorem dX5_commonFrom_33 : decode yX5_commonFrom.2.1 33 = .ok (.getfield 34, 3) := by decide +kernel
theorem dX5_commonFrom_36 : decode yX5_commonFrom.2.1 36 = .ok (.if_icmp .ne 5, 3) := by decide +kernel
theorem dX5_commonFrom_39 : decode yX5_commonFrom.2.1 39 = .ok (.iconst 0, 1) := by decide +kernel
theorem dX5_commonFrom_40 : decode yX5_commonFrom.2.1 40 = .ok (.ireturn, 1) := by decide +kernel
theorem dX5_commonFrom_41 : decode yX5_commonFrom.2.1 41 = .ok (.iload_n 2, 1) := by decide +kernel
theorem dX5_commonFrom_42 : decode yX5_commonFrom.2.1 42 = .ok (.aload_n 0, 1) := by decide +kernel
theorem dX5_commonFrom_43 : decode yX5_commonFrom.2.1 43 = .ok (.getfield 40, 3) := by decide +kernel
theorem dX5_commonFrom_46 : decode yX5_commonFrom.2.1 46 = .ok (.iload_n 1, 1) := by decide +kernel
theorem dX5_commonFrom_47 : decode yX5_commonFrom.2.1 47 = .ok (.aload_n 0, 1) := by decide +kernel
theorem dX5_commonFrom_48 : decode yX5_commonFrom.2.1 48 = .ok (.getfield 17, 3) := by decide +kernel
theorem dX5_commonFrom_51 : decode yX5_commonFrom.2.1 51 = .ok (.iload 5, 2) := by decide +kernel
theorem dX5_commonFrom_53 : decode yX5_commonFrom.2.1 53 = .ok (.iaload, 1) := by decide +kernel
theorem dX5_commonFrom_54 : decode yX5_commonFrom.2.1 54 = .ok (.iadd, 1) := by decide +kernel
theorem dX5_commonFrom_55 : decode yX5_commonFrom.2.1 55 = .ok (.iaload, 1) := by decide +kernel
theorem dX5_commonFrom_56 : decode yX5_commonFrom.2.1 56 = .ok (.invokestatic 56, 3) := by decide +kernel
theorem dX5_commonFrom_59 : decode yX5_commonFrom.2.1 59 = .ok (.istore_n 2, 1) := by decide +kernel
theorem dX5_commonFrom_60 : decode yX5_commonFrom.2.1 60 = .ok (.iload_n 3, 1) := by decide +kernel
theorem dX5_commonFrom_61 : decode yX5_commonFrom.2.1 61 = .ok (.aload_n 0, 1) := by decide +kernel
theorem dX5_commonFrom_62 : decode yX5_commonFrom.2.1 62 = .ok (.getfield 17, 3) := by decide +kernel
theorem dX5_commonFrom_65 : decode yX5_commonFrom.2.1 65 = .ok (.iload 5, 2) := by decide +kernel
theorem dX5_commonFrom_67 : decode yX5_commonFrom.2.1 67 = .ok (.iaload, 1) := by decide +kernel
theorem dX5_commonFrom_68 : decode yX5_commonFrom.2.1 68 = .ok (.iadd, 1) := by decide +kernel
theorem dX5_commonFrom_69 : decode yX5_commonFrom.2.1 69 = .ok (.istore_n 3, 1) := by decide +kernel
theorem dX5_commonFrom_70 : decode yX5_commonFrom.2.1 70 = .ok (.iload 4, 2) := by decide +kernel
theorem dX5_commonFrom_72 : decode yX5_commonFrom.2.1 72 = .ok (.ifCond .eq 21, 3) := by decide +kernel
theorem dX5_commonFrom_75 : decode yX5_commonFrom.2.1 75 = .ok (.aload_n 0, 1) := by decide +kernel
theorem dX5_commonFrom_76 : decode yX5_commonFrom.2.1 76 = .ok (.iload 5, 2) := by decide +kernel
theorem dX5_commonFrom_78 : decode yX5_commonFrom.2.1 78 = .ok (.invokevirtual 62, 3) := by decide +kernel
theorem dX5_commonFrom_81 : decode yX5_commonFrom.2.1 81 = .ok (.aload_n 0, 1) := by decide +kernel
theorem dX5_commonFrom_82 : decode yX5_commonFrom.2.1 82 = .ok (.iconst 0, 1) := by decide +kernel
theorem dX5_commonFrom_83 : decode yX5_commonFrom.2.1 83 = .ok (.invokevirtual 62, 3) := by decide +kernel
theorem dX5_commonFrom_86 : decode yX5_commonFrom.2.1 86 = .ok (.if_icmp .ne 7, 3) := by decide +kernel
theorem dX5_commonFrom_89 : decode yX5_commonFrom.2.1 89 = .ok (.iconst 1, 1) := by decide +kernel
theorem dX5_commonFrom_90 : decode yX5_commonFrom.2.1 90 = .ok (.goto 4, 3) := by decide +kernel
theorem dX5_commonFrom_93 : decode yX5_commonFrom.2.1 93 = .ok (.iconst 0, 1) := by decide +kernel
theorem dX5_commonFrom_94 : decode yX5_commonFrom.2.1 94 = .ok (.istore 4, 2) := by decide +kernel
theorem dX5_commonFrom_96 : decode yX5_commonFrom.2.1 96 = .ok (.iinc 5 1, 3) := by decide +kernel
theorem dX5_commonFrom_99 : decode yX5_commonFrom.2.1 99 = .ok (.goto (-89), 3) := by decide +kernel
theorem dX5_commonFrom_102 : decode yX5_commonFrom.2.1 102 = .ok (.iload 4, 2) := by decide +kernel
theorem dX5_commonFrom_104 : decode yX5_commonFrom.2.1 104 = .ok (.ifCond .eq 14, 3) := by decide +kernel
theorem dX5_commonFrom_107 : decode yX5_commonFrom.2.1 107 = .ok (.iconst 1, 1) := by decide +kernel
theorem dX5_commonFrom_108 : decode yX5_commonFrom.2.1 108 = .ok (.aload_n 0, 1) := by decide +kernel
theorem dX5_commonFrom_109 : decode yX5_commonFrom.2.1 109 = .ok (.getfield 40, 3) := by decide +kernel
theorem dX5_commonFrom_112 : decode yX5_commonFrom.2.1 112 = .ok (.iload_n 3, 1) := by decide +kernel
theorem dX5_commonFrom_113 : decode yX5_commonFrom.2.1 113 = .ok (.iaload, 1) := by decide +kernel
theorem dX5_commonFrom_114 : decode yX5_commonFrom.2.1 114 = .ok (.iadd, 1) := by decide +kernel
theorem dX5_commonFrom_115 : decode yX5_commonFrom.2.1 115 = .ok (.goto 4, 3) := by decide +kernel
theorem dX5_commonFrom_118 : decode yX5_commonFrom.2.1 118 = .ok (.iload_n 2, 1) := by decide +kernel
theorem dX5_commonFrom_119 : decode yX5_commonFrom.2.1 119 = .ok (.ireturn, 1) := by decide +kernel
theorem dX5_commonLetter_0 : decode yX5_commonLetter.2.1 0 = .ok (.iconst 0, 1) := by decide +kernel
theorem dX5_commonLetter_1 : decode yX5_commonLetter.2.1 1 = .ok (.istore_n 2, 1) := by decide +kernel
theorem dX5_commonLetter_2 : decode yX5_commonLetter.2.1 2 = .ok (.iload_n 2, 1) := by decide +kernel
theorem dX5_commonLetter_3 : decode yX5_commonLetter.2.1 3 = .ok (.iconst 5, 1) := by decide +kernel
theorem dX5_commonLetter_4 : decode yX5_commonLetter.2.1 4 = .ok (.if_icmp .ge 18, 3) := by decide +kernel
theorem dX5_commonLetter_7 : decode yX5_commonLetter.2.1 7 = .ok (.aload_n 0, 1) := by decide +kernel
theorem dX5_commonLetter_8 : decode yX5_commonLetter.2.1 8 = .ok (.iload_n 2, 1) := by decide +kernel
theorem dX5_commonLetter_9 : decode yX5_commonLetter.2.1 9 = .ok (.iload_n 1, 1) := by decide +kernel
theorem dX5_commonLetter_10 : decode yX5_commonLetter.2.1 10 = .ok (.invokevirtual 65, 3) := by decide +kernel
theorem dX5_commonLetter_13 : decode yX5_commonLetter.2.1 13 = .ok (.ifCond .ne 9, 3) := by decide +kernel
theorem dX5_commonLetter_16 : decode yX5_commonLetter.2.1 16 = .ok (.iinc 2 1, 3) := by decide +kernel
theorem dX5_commonLetter_19 : decode yX5_commonLetter.2.1 19 = .ok (.goto (-17), 3) := by decide +kernel
theorem dX5_commonLetter_22 : decode yX5_commonLetter.2.1 22 = .ok (.iconst 0, 1) := by decide +kernel
theorem dX5_commonLetter_23 : decode yX5_commonLetter.2.1 23 = .ok (.istore_n 3, 1) := by decide +kernel
theorem dX5_commonLetter_24 : decode yX5_commonLetter.2.1 24 = .ok (.iload_n 3, 1) := by decide +kernel
theorem dX5_commonLetter_25 : decode yX5_commonLetter.2.1 25 = .ok (.aload_n 0, 1) := by decide +kernel
theorem dX5_commonLetter_26 : decode yX5_commonLetter.2.1 26 = .ok (.getfield 27, 3) := by decide +kernel
theorem dX5_commonLetter_29 : decode yX5_commonLetter.2.1 29 = .ok (.if_icmp .ge 21, 3) := by decide +kernel
theorem dX5_commonLetter_32 : decode yX5_commonLetter.2.1 32 = .ok (.aload_n 0, 1) := by decide +kernel
theorem dX5_commonLetter_33 : decode yX5_commonLetter.2.1 33 = .ok (.getfield 21, 3) := by decide +kernel
theorem dX5_commonLetter_36 : decode yX5_commonLetter.2.1 36 = .ok (.iload_n 3, 1) := by decide +kernel
theorem dX5_commonLetter_37 : decode yX5_commonLetter.2.1 37 = .ok (.aload_n 0, 1) := by decide +kernel
theorem dX5_commonLetter_38 : decode yX5_commonLetter.2.1 38 = .ok (.iload_n 3, 1) := by decide +kernel
theorem dX5_commonLetter_39 : decode yX5_commonLetter.2.1 39 = .ok (.iload_n 2, 1) := by decide +kernel
theorem dX5_commonLetter_40 : decode yX5_commonLetter.2.1 40 = .ok (.invokevirtual 69, 3) := by decide +kernel
theorem dX5_commonLetter_43 : decode yX5_commonLetter.2.1 43 = .ok (.iastore, 1) := by decide +kernel
theorem dX5_commonLetter_44 : decode yX5_commonLetter.2.1 44 = .ok (.iinc 3 1, 3) := by decide +kernel
theorem dX5_commonLetter_47 : decode yX5_commonLetter.2.1 47 = .ok (.goto (-23), 3) := by decide +kernel
theorem dX5_commonLetter_50 : decode yX5_commonLetter.2.1 50 = .ok (.iload_n 2, 1) := by decide +kernel
theorem dX5_commonLetter_51 : decode yX5_commonLetter.2.1 51 = .ok (.ireturn, 1) := by decide +kernel
theorem dX5_behindNext_0 : decode yX5_behindNext.2.1 0 = .ok (.aload_n 0, 1) := by decide +kernel
theorem dX5_behindNext_1 : decode yX5_behindNext.2.1 1 = .ok (.getfield 21, 3) := by decide +kernel
theorem dX5_behindNext_4 : decode yX5_behindNext.2.1 4 = .ok (.iload_n 1, 1) := by decide +kernel
theorem dX5_behindNext_5 : decode yX5_behindNext.2.1 5 = .ok (.iaload, 1) := by decide +kernel
theorem dX5_behindNext_6 : decode yX5_behindNext.2.1 6 = .ok (.istore_n 3, 1) := by decide +kernel
theorem dX5_behindNext_7 : decode yX5_behindNext.2.1 7 = .ok (.iload_n 3, 1) := by decide +kernel
theorem dX5_behindNext_8 : decode yX5_behindNext.2.1 8 = .ok (.aload_n 0, 1) := by decide +kernel
theorem dX5_behindNext_9 : decode yX5_behindNext.2.1 9 = .ok (.getfield 11, 3) := by decide +kernel
theorem dX5_behindNext_12 : decode yX5_behindNext.2.1 12 = .ok (.iload_n 1, 1) := by decide +kernel
theorem dX5_behindNext_13 : decode yX5_behindNext.2.1 13 = .ok (.aaload, 1) := by decide +kernel
theorem dX5_behindNext_14 : decode yX5_behindNext.2.1 14 = .ok (.getfield 34, 3) := by decide +kernel
theorem dX5_behindNext_17 : decode yX5_behindNext.2.1 17 = .ok (.if_icmp .ge 28, 3) := by decide +kernel
theorem dX5_behindNext_20 : decode yX5_behindNext.2.1 20 = .ok (.aload_n 0, 1) := by decide +kernel
theorem dX5_behindNext_21 : decode yX5_behindNext.2.1 21 = .ok (.getfield 11, 3) := by decide +kernel
theorem dX5_behindNext_24 : decode yX5_behindNext.2.1 24 = .ok (.iload_n 1, 1) := by decide +kernel
theorem dX5_behindNext_25 : decode yX5_behindNext.2.1 25 = .ok (.aaload, 1) := by decide +kernel
theorem dX5_behindNext_26 : decode yX5_behindNext.2.1 26 = .ok (.getfield 72, 3) := by decide +kernel
theorem dX5_behindNext_29 : decode yX5_behindNext.2.1 29 = .ok (.iload_n 3, 1) := by decide +kernel
theorem dX5_behindNext_30 : decode yX5_behindNext.2.1 30 = .ok (.iaload, 1) := by decide +kernel
theorem dX5_behindNext_31 : decode yX5_behindNext.2.1 31 = .ok (.iload_n 2, 1) := by decide +kernel
theorem dX5_behindNext_32 : decode yX5_behindNext.2.1 32 = .ok (.if_icmp .ne 7, 3) := by decide +kernel
theorem dX5_behindNext_35 : decode yX5_behindNext.2.1 35 = .ok (.iload_n 3, 1) := by decide +kernel
theorem dX5_behindNext_36 : decode yX5_behindNext.2.1 36 = .ok (.iconst 1, 1) := by decide +kernel
theorem dX5_behindNext_37 : decode yX5_behindNext.2.1 37 = .ok (.iadd, 1) := by decide +kernel
theorem dX5_behindNext_38 : decode yX5_behindNext.2.1 38 = .ok (.ireturn, 1) := by decide +kernel
theorem dX5_behindNext_39 : decode yX5_behindNext.2.1 39 = .ok (.iinc 3 1, 3) := by decide +kernel
theorem dX5_behindNext_42 : decode yX5_behindNext.2.1 42 = .ok (.goto (-35), 3) := by decide +kernel
theorem dX5_behindNext_45 : decode yX5_behindNext.2.1 45 = .ok (.iconst 0, 1) := by decide +kernel
theorem dX5_behindNext_46 : decode yX5_behindNext.2.1 46 = .ok (.ireturn, 1) := by decide +kernel
theorem dX5_leads_0 : decode yX5_leads.2.1 0 = .ok (.iconst 0, 1) := by decide +kernel
theorem dX5_leads_1 : decode yX5_leads.2.1 1 = .ok (.istore_n 3, 1) := by decide +kernel
theorem dX5_leads_2 : decode yX5_leads.2.1 2 = .ok (.iconst 0, 1) := by decide +kernel
theorem dX5_leads_3 : decode yX5_leads.2.1 3 = .ok (.istore 4, 2) := by decide +kernel
theorem dX5_leads_5 : decode yX5_leads.2.1 5 = .ok (.iload 4, 2) := by decide +kernel
theorem dX5_leads_7 : decode yX5_leads.2.1 7 = .ok (.aload_n 0, 1) := by decide +kernel
theorem dX5_leads_8 : decode yX5_leads.2.1 8 = .ok (.getfield 27, 3) := by decide +kernel
theorem dX5_leads_11 : decode yX5_leads.2.1 11 = .ok (.if_icmp .ge 38, 3) := by decide +kernel
theorem dX5_leads_14 : decode yX5_leads.2.1 14 = .ok (.aload_n 0, 1) := by decide +kernel
theorem dX5_leads_15 : decode yX5_leads.2.1 15 = .ok (.iload 4, 2) := by decide +kernel
theorem dX5_leads_17 : decode yX5_leads.2.1 17 = .ok (.iload_n 1, 1) := by decide +kernel
theorem dX5_leads_18 : decode yX5_leads.2.1 18 = .ok (.invokevirtual 69, 3) := by decide +kernel
theorem dX5_leads_21 : decode yX5_leads.2.1 21 = .ok (.istore 5, 2) := by decide +kernel
theorem dX5_leads_23 : decode yX5_leads.2.1 23 = .ok (.iload 5, 2) := by decide +kernel
theorem dX5_leads_25 : decode yX5_leads.2.1 25 = .ok (.ifCond .ne 5, 3) := by decide +kernel
theorem dX5_leads_28 : decode yX5_leads.2.1 28 = .ok (.iconst 0, 1) := by decide +kernel
theorem dX5_leads_29 : decode yX5_leads.2.1 29 = .ok (.ireturn, 1) := by decide +kernel
theorem dX5_leads_30 : decode yX5_leads.2.1 30 = .ok (.iload_n 3, 1) := by decide +kernel
theorem dX5_leads_31 : decode yX5_leads.2.1 31 = .ok (.iload 5, 2) := by decide +kernel
theorem dX5_leads_33 : decode yX5_leads.2.1 33 = .ok (.aload_n 0, 1) := by decide +kernel
theorem dX5_leads_34 : decode yX5_leads.2.1 34 = .ok (.getfield 17, 3) := by decide +kernel
theorem dX5_leads_37 : decode yX5_leads.2.1 37 = .ok (.iload 4, 2) := by decide +kernel
theorem dX5_leads_39 : decode yX5_leads.2.1 39 = .ok (.iaload, 1) := by decide +kernel
theorem dX5_leads_40 : decode yX5_leads.2.1 40 = .ok (.imul, 1) := by decide +kernel
theorem dX5_leads_41 : decode yX5_leads.2.1 41 = .ok (.iadd, 1) := by decide +kernel
theorem dX5_leads_42 : decode yX5_leads.2.1 42 = .ok (.istore_n 3, 1) := by decide +kernel
theorem dX5_leads_43 : decode yX5_leads.2.1 43 = .ok (.iinc 4 1, 3) := by decide +kernel
theorem dX5_leads_46 : decode yX5_leads.2.1 46 = .ok (.goto (-41), 3) := by decide +kernel
theorem dX5_leads_49 : decode yX5_leads.2.1 49 = .ok (.aload_n 0, 1) := by decide +kernel
theorem dX5_leads_50 : decode yX5_leads.2.1 50 = .ok (.getfield 40, 3) := by decide +kernel
theorem dX5_leads_53 : decode yX5_leads.2.1 53 = .ok (.iload_n 3, 1) := by decide +kernel
theorem dX5_leads_54 : decode yX5_leads.2.1 54 = .ok (.iaload, 1) := by decide +kernel
theorem dX5_leads_55 : decode yX5_leads.2.1 55 = .ok (.iload_n 2, 1) := by decide +kernel
theorem dX5_leads_56 : decode yX5_leads.2.1 56 = .ok (.if_icmp .ne 7, 3) := by decide +kernel
theorem dX5_leads_59 : decode yX5_leads.2.1 59 = .ok (.iconst 1, 1) := by decide +kernel
theorem dX5_leads_60 : decode yX5_leads.2.1 60 = .ok (.goto 4, 3) := by decide +kernel
theorem dX5_leads_63 : decode yX5_leads.2.1 63 = .ok (.iconst 0, 1) := by decide +kernel
theorem dX5_leads_64 : decode yX5_leads.2.1 64 = .ok (.ireturn, 1) := by decide +kernel
theorem dX5_shortestCover_0 : decode yX5_shortestCover.2.1 0 = .ok (.aload_n 0, 1) := by decide +kernel
theorem dX5_shortestCover_1 : decode yX5_shortestCover.2.1 1 = .ok (.invokevirtual 37, 3) := by decide +kernel
theorem dX5_shortestCover_4 : decode yX5_shortestCover.2.1 4 = .ok (.aload_n 0, 1) := by decide +kernel
theorem dX5_shortestCover_5 : decode yX5_shortestCover.2.1 5 = .ok (.getfield 31, 3) := by decide +kernel
theorem dX5_shortestCover_8 : decode yX5_shortestCover.2.1 8 = .ok (.iconst 1, 1) := by decide +kernel
theorem dX5_shortestCover_9 : decode yX5_shortestCover.2.1 9 = .ok (.isub, 1) := by decide +kernel
theorem dX5_shortestCover_10 : decode yX5_shortestCover.2.1 10 = .ok (.istore_n 2, 1) := by decide +kernel
theorem dX5_shortestCover_11 : decode yX5_shortestCover.2.1 11 = .ok (.iload_n 2, 1) := by decide +kernel
theorem dX5_shortestCover_12 : decode yX5_shortestCover.2.1 12 = .ok (.ifCond .lt 24, 3) := by decide +kernel
theorem dX5_shortestCover_15 : decode yX5_shortestCover.2.1 15 = .ok (.aload_n 0, 1) := by decide +kernel
theorem dX5_shortestCover_16 : decode yX5_shortestCover.2.1 16 = .ok (.getfield 40, 3) := by decide +kernel
theorem dX5_shortestCover_19 : decode yX5_shortestCover.2.1 19 = .ok (.iload_n 2, 1) := by decide +kernel
theorem dX5_shortestCover_20 : decode yX5_shortestCover.2.1 20 = .ok (.aload_n 0, 1) := by decide +kernel
theorem dX5_shortestCover_21 : decode yX5_shortestCover.2.1 21 = .ok (.iload_n 2, 1) := by decide +kernel
theorem dX5_shortestCover_22 : decode yX5_shortestCover.2.1 22 = .ok (.invokevirtual 75, 3) := by decide +kernel
theorem dX5_shortestCover_25 : decode yX5_shortestCover.2.1 25 = .ok (.iastore, 1) := by decide +kernel
theorem dX5_shortestCover_26 : decode yX5_shortestCover.2.1 26 = .ok (.aload_n 0, 1) := by decide +kernel
theorem dX5_shortestCover_27 : decode yX5_shortestCover.2.1 27 = .ok (.invokevirtual 47, 3) := by decide +kernel
theorem dX5_shortestCover_30 : decode yX5_shortestCover.2.1 30 = .ok (.iinc 2 (-1), 3) := by decide +kernel
theorem dX5_shortestCover_33 : decode yX5_shortestCover.2.1 33 = .ok (.goto (-22), 3) := by decide +kernel
theorem dX5_shortestCover_36 : decode yX5_shortestCover.2.1 36 = .ok (.aload_n 0, 1) := by decide +kernel
theorem dX5_shortestCover_37 : decode yX5_shortestCover.2.1 37 = .ok (.invokevirtual 50, 3) := by decide +kernel
theorem dX5_shortestCover_40 : decode yX5_shortestCover.2.1 40 = .ok (.aload_n 0, 1) := by decide +kernel
theorem dX5_shortestCover_41 : decode yX5_shortestCover.2.1 41 = .ok (.getfield 40, 3) := by decide +kernel
theorem dX5_shortestCover_44 : decode yX5_shortestCover.2.1 44 = .ok (.iconst 0, 1) := by decide +kernel
theorem dX5_shortestCover_45 : decode yX5_shortestCover.2.1 45 = .ok (.iaload, 1) := by decide +kernel
theorem dX5_shortestCover_46 : decode yX5_shortestCover.2.1 46 = .ok (.istore_n 2, 1) := by decide +kernel
theorem dX5_shortestCover_47 : decode yX5_shortestCover.2.1 47 = .ok (.iconst 0, 1) := by decide +kernel
theorem dX5_shortestCover_48 : decode yX5_shortestCover.2.1 48 = .ok (.istore_n 3, 1) := by decide +kernel
theorem dX5_shortestCover_49 : decode yX5_shortestCover.2.1 49 = .ok (.iconst 0, 1) := by decide +kernel
theorem dX5_shortestCover_50 : decode yX5_shortestCover.2.1 50 = .ok (.istore 4, 2) := by decide +kernel
theorem dX5_shortestCover_52 : decode yX5_shortestCover.2.1 52 = .ok (.iload 4, 2) := by decide +kernel
theorem dX5_shortestCover_54 : decode yX5_shortestCover.2.1 54 = .ok (.iload_n 2, 1) := by decide +kernel
theorem dX5_shortestCover_55 : decode yX5_shortestCover.2.1 55 = .ok (.if_icmp .ge 67, 3) := by decide +kernel
theorem dX5_shortestCover_58 : decode yX5_shortestCover.2.1 58 = .ok (.iload 4, 2) := by decide +kernel
theorem dX5_shortestCover_60 : decode yX5_shortestCover.2.1 60 = .ok (.bipush 40, 2) := by decide +kernel
theorem dX5_shortestCover_62 : decode yX5_shortestCover.2.1 62 = .ok (.if_icmp .ge 60, 3) := by decide +kernel
theorem dX5_shortestCover_65 : decode yX5_shortestCover.2.1 65 = .ok (.aload_n 0, 1) := by decide +kernel
theorem dX5_shortestCover_66 : decode yX5_shortestCover.2.1 66 = .ok (.invokevirtual 78, 3) := by decide +kernel
theorem dX5_shortestCover_69 : decode yX5_shortestCover.2.1 69 = .ok (.iconst 0, 1) := by decide +kernel
theorem dX5_shortestCover_70 : decode yX5_shortestCover.2.1 70 = .ok (.istore 5, 2) := by decide +kernel
theorem dX5_shortestCover_72 : decode yX5_shortestCover.2.1 72 = .ok (.iload 5, 2) := by decide +kernel
theorem dX5_shortestCover_74 : decode yX5_shortestCover.2.1 74 = .ok (.iconst 5, 1) := by decide +kernel
theorem dX5_shortestCover_75 : decode yX5_shortestCover.2.1 75 = .ok (.if_icmp .ge 19, 3) := by decide +kernel
theorem dX5_shortestCover_78 : decode yX5_shortestCover.2.1 78 = .ok (.aload_n 0, 1) := by decide +kernel
theorem dX5_shortestCover_79 : decode yX5_shortestCover.2.1 79 = .ok (.iload_n 3, 1) := by decide +kernel
theorem dX5_shortestCover_80 : decode yX5_shortestCover.2.1 80 = .ok (.iload 5, 2) := by decide +kernel
theorem dX5_shortestCover_82 : decode yX5_shortestCover.2.1 82 = .ok (.invokevirtual 81, 3) := by decide +kernel
theorem dX5_shortestCover_85 : decode yX5_shortestCover.2.1 85 = .ok (.ifCond .ne 9, 3) := by decide +kernel
theorem dX5_shortestCover_88 : decode yX5_shortestCover.2.1 88 = .ok (.iinc 5 1, 3) := by decide +kernel
theorem dX5_shortestCover_91 : decode yX5_shortestCover.2.1 91 = .ok (.goto (-19), 3) := by decide +kernel
theorem dX5_shortestCover_94 : decode yX5_shortestCover.2.1 94 = .ok (.aload_n 1, 1) := by decide +kernel
theorem dX5_shortestCover_95 : decode yX5_shortestCover.2.1 95 = .ok (.iload 4, 2) := by decide +kernel
theorem dX5_shortestCover_97 : decode yX5_shortestCover.2.1 97 = .ok (.iload 5, 2) := by decide +kernel
theorem dX5_shortestCover_99 : decode yX5_shortestCover.2.1 99 = .ok (.iastore, 1) := by decide +kernel
theorem dX5_shortestCover_100 : decode yX5_shortestCover.2.1 100 = .ok (.iload_n 3, 1) := by decide +kernel
theorem dX5_shortestCover_101 : decode yX5_shortestCover.2.1 101 = .ok (.aload_n 0, 1) := by decide +kernel
theorem dX5_shortestCover_102 : decode yX5_shortestCover.2.1 102 = .ok (.getfield 24, 3) := by decide +kernel
theorem dX5_shortestCover_105 : decode yX5_shortestCover.2.1 105 = .ok (.iload 5, 2) := by decide +kernel
theorem dX5_shortestCover_107 : decode yX5_shortestCover.2.1 107 = .ok (.iaload, 1) := by decide +kernel
theorem dX5_shortestCover_108 : decode yX5_shortestCover.2.1 108 = .ok (.iadd, 1) := by decide +kernel
theorem dX5_shortestCover_109 : decode yX5_shortestCover.2.1 109 = .ok (.istore_n 3, 1) := by decide +kernel
theorem dX5_shortestCover_110 : decode yX5_shortestCover.2.1 110 = .ok (.aload_n 0, 1) := by decide +kernel
theorem dX5_shortestCover_111 : decode yX5_shortestCover.2.1 111 = .ok (.iload 5, 2) := by decide +kernel
theorem dX5_shortestCover_113 : decode yX5_shortestCover.2.1 113 = .ok (.invokevirtual 84, 3) := by decide +kernel
theorem dX5_shortestCover_116 : decode yX5_shortestCover.2.1 116 = .ok (.iinc 4 1, 3) := by decide +kernel
theorem dX5_shortestCover_119 : decode yX5_shortestCover.2.1 119 = .ok (.goto (-67), 3) := by decide +kernel
theorem dX5_shortestCover_122 : decode yX5_shortestCover.2.1 122 = .ok (.iload_n 2, 1) := by decide +kernel
theorem dX5_shortestCover_123 : decode yX5_shortestCover.2.1 123 = .ok (.ireturn, 1) := by decide +kernel
theorem dX5_coversBy_0 : decode yX5_coversBy.2.1 0 = .ok (.aload_n 0, 1) := by decide +kernel
theorem dX5_coversBy_1 : decode yX5_coversBy.2.1 1 = .ok (.getfield 24, 3) := by decide +kernel
theorem dX5_coversBy_4 : decode yX5_coversBy.2.1 4 = .ok (.iload_n 2, 1) := by decide +kernel
theorem dX5_coversBy_5 : decode yX5_coversBy.2.1 5 = .ok (.iaload, 1) := by decide +kernel
theorem dX5_coversBy_6 : decode yX5_coversBy.2.1 6 = .ok (.ifCond .le 31, 3) := by decide +kernel
theorem dX5_coversBy_9 : decode yX5_coversBy.2.1 9 = .ok (.aload_n 0, 1) := by decide +kernel
theorem dX5_coversBy_10 : decode yX5_coversBy.2.1 10 = .ok (.getfield 40, 3) := by decide +kernel
theorem dX5_coversBy_13 : decode yX5_coversBy.2.1 13 = .ok (.iload_n 1, 1) := by decide +kernel
theorem dX5_coversBy_14 : decode yX5_coversBy.2.1 14 = .ok (.aload_n 0, 1) := by decide +kernel
theorem dX5_coversBy_15 : decode yX5_coversBy.2.1 15 = .ok (.getfield 24, 3) := by decide +kernel
theorem dX5_coversBy_18 : decode yX5_coversBy.2.1 18 = .ok (.iload_n 2, 1) := by decide +kernel
theorem dX5_coversBy_19 : decode yX5_coversBy.2.1 19 = .ok (.iaload, 1) := by decide +kernel
theorem dX5_coversBy_20 : decode yX5_coversBy.2.1 20 = .ok (.iadd, 1) := by decide +kernel
theorem dX5_coversBy_21 : decode yX5_coversBy.2.1 21 = .ok (.iaload, 1) := by decide +kernel
theorem dX5_coversBy_22 : decode yX5_coversBy.2.1 22 = .ok (.aload_n 0, 1) := by decide +kernel
theorem dX5_coversBy_23 : decode yX5_coversBy.2.1 23 = .ok (.getfield 40, 3) := by decide +kernel
theorem dX5_coversBy_26 : decode yX5_coversBy.2.1 26 = .ok (.iload_n 1, 1) := by decide +kernel
theorem dX5_coversBy_27 : decode yX5_coversBy.2.1 27 = .ok (.iaload, 1) := by decide +kernel
theorem dX5_coversBy_28 : decode yX5_coversBy.2.1 28 = .ok (.iconst 1, 1) := by decide +kernel
theorem dX5_coversBy_29 : decode yX5_coversBy.2.1 29 = .ok (.isub, 1) := by decide +kernel
theorem dX5_coversBy_30 : decode yX5_coversBy.2.1 30 = .ok (.if_icmp .ne 7, 3) := by decide +kernel
theorem dX5_coversBy_33 : decode yX5_coversBy.2.1 33 = .ok (.iconst 1, 1) := by decide +kernel
theorem dX5_coversBy_34 : decode yX5_coversBy.2.1 34 = .ok (.goto 4, 3) := by decide +kernel
theorem dX5_coversBy_37 : decode yX5_coversBy.2.1 37 = .ok (.iconst 0, 1) := by decide +kernel
theorem dX5_coversBy_38 : decode yX5_coversBy.2.1 38 = .ok (.ireturn, 1) := by decide +kernel
theorem dX5_coverFrom_0 : decode yX5_coverFrom.2.1 0 = .ok (.aload_n 0, 1) := by decide +kernel
theorem dX5_coverFrom_1 : decode yX5_coverFrom.2.1 1 = .ok (.invokevirtual 78, 3) := by decide +kernel
theorem dX5_coverFrom_4 : decode yX5_coverFrom.2.1 4 = .ok (.iconst 0, 1) := by decide +kernel
theorem dX5_coverFrom_5 : decode yX5_coverFrom.2.1 5 = .ok (.istore_n 2, 1) := by decide +kernel
theorem dX5_coverFrom_6 : decode yX5_coverFrom.2.1 6 = .ok (.iconst 0, 1) := by decide +kernel
theorem dX5_coverFrom_7 : decode yX5_coverFrom.2.1 7 = .ok (.istore_n 3, 1) := by decide +kernel
theorem dX5_coverFrom_8 : decode yX5_coverFrom.2.1 8 = .ok (.iload_n 3, 1) := by decide +kernel
theorem dX5_coverFrom_9 : decode yX5_coverFrom.2.1 9 = .ok (.aload_n 0, 1) := by decide +kernel
theorem dX5_coverFrom_10 : decode yX5_coverFrom.2.1 10 = .ok (.getfield 27, 3) := by decide +kernel
theorem dX5_coverFrom_13 : decode yX5_coverFrom.2.1 13 = .ok (.if_icmp .ge 64, 3) := by decide +kernel
theorem dX5_coverFrom_16 : decode yX5_coverFrom.2.1 16 = .ok (.aload_n 0, 1) := by decide +kernel
theorem dX5_coverFrom_17 : decode yX5_coverFrom.2.1 17 = .ok (.getfield 21, 3) := by decide +kernel
theorem dX5_coverFrom_20 : decode yX5_coverFrom.2.1 20 = .ok (.iload_n 3, 1) := by decide +kernel
theorem dX5_coverFrom_21 : decode yX5_coverFrom.2.1 21 = .ok (.iaload, 1) := by decide +kernel
theorem dX5_coverFrom_22 : decode yX5_coverFrom.2.1 22 = .ok (.aload_n 0, 1) := by decide +kernel
theorem dX5_coverFrom_23 : decode yX5_coverFrom.2.1 23 = .ok (.getfield 11, 3) := by decide +kernel
theorem dX5_coverFrom_26 : decode yX5_coverFrom.2.1 26 = .ok (.iload_n 3, 1) := by decide +kernel
theorem dX5_coverFrom_27 : decode yX5_coverFrom.2.1 27 = .ok (.aaload, 1) := by decide +kernel
theorem dX5_coverFrom_28 : decode yX5_coverFrom.2.1 28 = .ok (.getfield 34, 3) := by decide +kernel
theorem dX5_coverFrom_31 : decode yX5_coverFrom.2.1 31 = .ok (.if_icmp .ge 40, 3) := by decide +kernel
theorem dX5_coverFrom_34 : decode yX5_coverFrom.2.1 34 = .ok (.iconst 1, 1) := by decide +kernel
theorem dX5_coverFrom_35 : decode yX5_coverFrom.2.1 35 = .ok (.aload_n 0, 1) := by decide +kernel
theorem dX5_coverFrom_36 : decode yX5_coverFrom.2.1 36 = .ok (.getfield 40, 3) := by decide +kernel
theorem dX5_coverFrom_39 : decode yX5_coverFrom.2.1 39 = .ok (.iload_n 1, 1) := by decide +kernel
theorem dX5_coverFrom_40 : decode yX5_coverFrom.2.1 40 = .ok (.aload_n 0, 1) := by decide +kernel
theorem dX5_coverFrom_41 : decode yX5_coverFrom.2.1 41 = .ok (.getfield 24, 3) := by decide +kernel
theorem dX5_coverFrom_44 : decode yX5_coverFrom.2.1 44 = .ok (.aload_n 0, 1) := by decide +kernel
theorem dX5_coverFrom_45 : decode yX5_coverFrom.2.1 45 = .ok (.iload_n 3, 1) := by decide +kernel
theorem dX5_coverFrom_46 : decode yX5_coverFrom.2.1 46 = .ok (.invokevirtual 62, 3) := by decide +kernel
theorem dX5_coverFrom_49 : decode yX5_coverFrom.2.1 49 = .ok (.iaload, 1) := by decide +kernel
theorem dX5_coverFrom_50 : decode yX5_coverFrom.2.1 50 = .ok (.iadd, 1) := by decide +kernel
theorem dX5_coverFrom_51 : decode yX5_coverFrom.2.1 51 = .ok (.iaload, 1) := by decide +kernel
theorem dX5_coverFrom_52 : decode yX5_coverFrom.2.1 52 = .ok (.iadd, 1) := by decide +kernel
theorem dX5_coverFrom_53 : decode yX5_coverFrom.2.1 53 = .ok (.istore 4, 2) := by decide +kernel
theorem dX5_coverFrom_55 : decode yX5_coverFrom.2.1 55 = .ok (.iload_n 2, 1) := by decide +kernel
theorem dX5_coverFrom_56 : decode yX5_coverFrom.2.1 56 = .ok (.ifCond .ne 8, 3) := by decide +kernel
theorem dX5_coverFrom_59 : decode yX5_coverFrom.2.1 59 = .ok (.iload 4, 2) := by decide +kernel
theorem dX5_coverFrom_61 : decode yX5_coverFrom.2.1 61 = .ok (.goto 9, 3) := by decide +kernel
theorem dX5_coverFrom_64 : decode yX5_coverFrom.2.1 64 = .ok (.iload_n 2, 1) := by decide +kernel
theorem dX5_coverFrom_65 : decode yX5_coverFrom.2.1 65 = .ok (.iload 4, 2) := by decide +kernel
theorem dX5_coverFrom_67 : decode yX5_coverFrom.2.1 67 = .ok (.invokestatic 88, 3) := by decide +kernel
theorem dX5_coverFrom_70 : decode yX5_coverFrom.2.1 70 = .ok (.istore_n 2, 1) := by decide +kernel
theorem dX5_coverFrom_71 : decode yX5_coverFrom.2.1 71 = .ok (.iinc 3 1, 3) := by decide +kernel
theorem dX5_coverFrom_74 : decode yX5_coverFrom.2.1 74 = .ok (.goto (-66), 3) := by decide +kernel
theorem dX5_coverFrom_77 : decode yX5_coverFrom.2.1 77 = .ok (.iload_n 2, 1) := by decide +kernel
theorem dX5_coverFrom_78 : decode yX5_coverFrom.2.1 78 = .ok (.ireturn, 1) := by decide +kernel
theorem dX5_readHeads_0 : decode yX5_readHeads.2.1 0 = .ok (.iconst 0, 1) := by decide +kernel
theorem dX5_readHeads_1 : decode yX5_readHeads.2.1 1 = .ok (.istore_n 1, 1) := by decide +kernel
theorem dX5_readHeads_2 : decode yX5_readHeads.2.1 2 = .ok (.iload_n 1, 1) := by decide +kernel
theorem dX5_readHeads_3 : decode yX5_readHeads.2.1 3 = .ok (.bipush 6, 2) := by decide +kernel
theorem dX5_readHeads_5 : decode yX5_readHeads.2.1 5 = .ok (.if_icmp .ge 16, 3) := by decide +kernel
theorem dX5_readHeads_8 : decode yX5_readHeads.2.1 8 = .ok (.aload_n 0, 1) := by decide +kernel
theorem dX5_readHeads_9 : decode yX5_readHeads.2.1 9 = .ok (.getfield 24, 3) := by decide +kernel
theorem dX5_readHeads_12 : decode yX5_readHeads.2.1 12 = .ok (.iload_n 1, 1) := by decide +kernel
theorem dX5_readHeads_13 : decode yX5_readHeads.2.1 13 = .ok (.iconst 0, 1) := by decide +kernel
theorem dX5_readHeads_14 : decode yX5_readHeads.2.1 14 = .ok (.iastore, 1) := by decide +kernel
theorem dX5_readHeads_15 : decode yX5_readHeads.2.1 15 = .ok (.iinc 1 1, 3) := by decide +kernel
theorem dX5_readHeads_18 : decode yX5_readHeads.2.1 18 = .ok (.goto (-16), 3) := by decide +kernel
theorem dX5_readHeads_21 : decode yX5_readHeads.2.1 21 = .ok (.iconst 0, 1) := by decide +kernel
theorem dX5_readHeads_22 : decode yX5_readHeads.2.1 22 = .ok (.istore_n 1, 1) := by decide +kernel
theorem dX5_readHeads_23 : decode yX5_readHeads.2.1 23 = .ok (.iload_n 1, 1) := by decide +kernel
theorem dX5_readHeads_24 : decode yX5_readHeads.2.1 24 = .ok (.aload_n 0, 1) := by decide +kernel
theorem dX5_readHeads_25 : decode yX5_readHeads.2.1 25 = .ok (.getfield 27, 3) := by decide +kernel
theorem dX5_readHeads_28 : decode yX5_readHeads.2.1 28 = .ok (.if_icmp .ge 46, 3) := by decide +kernel
theorem dX5_readHeads_31 : decode yX5_readHeads.2.1 31 = .ok (.aload_n 0, 1) := by decide +kernel
theorem dX5_readHeads_32 : decode yX5_readHeads.2.1 32 = .ok (.getfield 21, 3) := by decide +kernel
theorem dX5_readHeads_35 : decode yX5_readHeads.2.1 35 = .ok (.iload_n 1, 1) := by decide +kernel
theorem dX5_readHeads_36 : decode yX5_readHeads.2.1 36 = .ok (.iaload, 1) := by decide +kernel
theorem dX5_readHeads_37 : decode yX5_readHeads.2.1 37 = .ok (.aload_n 0, 1) := by decide +kernel
theorem dX5_readHeads_38 : decode yX5_readHeads.2.1 38 = .ok (.getfield 11, 3) := by decide +kernel
theorem dX5_readHeads_41 : decode yX5_readHeads.2.1 41 = .ok (.iload_n 1, 1) := by decide +kernel
theorem dX5_readHeads_42 : decode yX5_readHeads.2.1 42 = .ok (.aaload, 1) := by decide +kernel
theorem dX5_readHeads_43 : decode yX5_readHeads.2.1 43 = .ok (.getfield 34, 3) := by decide +kernel
theorem dX5_readHeads_46 : decode yX5_readHeads.2.1 46 = .ok (.if_icmp .ge 22, 3) := by decide +kernel
theorem dX5_readHeads_49 : decode yX5_readHeads.2.1 49 = .ok (.aload_n 0, 1) := by decide +kernel
theorem dX5_readHeads_50 : decode yX5_readHeads.2.1 50 = .ok (.getfield 24, 3) := by decide +kernel
theorem dX5_readHeads_53 : decode yX5_readHeads.2.1 53 = .ok (.aload_n 0, 1) := by decide +kernel
theorem dX5_readHeads_54 : decode yX5_readHeads.2.1 54 = .ok (.iload_n 1, 1) := by decide +kernel
theorem dX5_readHeads_55 : decode yX5_readHeads.2.1 55 = .ok (.invokevirtual 62, 3) := by decide +kernel
theorem dX5_readHeads_58 : decode yX5_readHeads.2.1 58 = .ok (.dup2, 1) := by decide +kernel
theorem dX5_readHeads_59 : decode yX5_readHeads.2.1 59 = .ok (.iaload, 1) := by decide +kernel
theorem dX5_readHeads_60 : decode yX5_readHeads.2.1 60 = .ok (.aload_n 0, 1) := by decide +kernel
theorem dX5_readHeads_61 : decode yX5_readHeads.2.1 61 = .ok (.getfield 17, 3) := by decide +kernel
theorem dX5_readHeads_64 : decode yX5_readHeads.2.1 64 = .ok (.iload_n 1, 1) := by decide +kernel
theorem dX5_readHeads_65 : decode yX5_readHeads.2.1 65 = .ok (.iaload, 1) := by decide +kernel
theorem dX5_readHeads_66 : decode yX5_readHeads.2.1 66 = .ok (.iadd, 1) := by decide +kernel
theorem dX5_readHeads_67 : decode yX5_readHeads.2.1 67 = .ok (.iastore, 1) := by decide +kernel
theorem dX5_readHeads_68 : decode yX5_readHeads.2.1 68 = .ok (.iinc 1 1, 3) := by decide +kernel
theorem dX5_readHeads_71 : decode yX5_readHeads.2.1 71 = .ok (.goto (-48), 3) := by decide +kernel
theorem dX5_readHeads_74 : decode yX5_readHeads.2.1 74 = .ok (.return_, 1) := by decide +kernel
theorem dX5_goBehind_0 : decode yX5_goBehind.2.1 0 = .ok (.iconst 0, 1) := by decide +kernel
theorem dX5_goBehind_1 : decode yX5_goBehind.2.1 1 = .ok (.istore_n 2, 1) := by decide +kernel
theorem dX5_goBehind_2 : decode yX5_goBehind.2.1 2 = .ok (.iload_n 2, 1) := by decide +kernel
theorem dX5_goBehind_3 : decode yX5_goBehind.2.1 3 = .ok (.aload_n 0, 1) := by decide +kernel
theorem dX5_goBehind_4 : decode yX5_goBehind.2.1 4 = .ok (.getfield 27, 3) := by decide +kernel
theorem dX5_goBehind_7 : decode yX5_goBehind.2.1 7 = .ok (.if_icmp .ge 46, 3) := by decide +kernel
theorem dX5_goBehind_10 : decode yX5_goBehind.2.1 10 = .ok (.aload_n 0, 1) := by decide +kernel
theorem dX5_goBehind_11 : decode yX5_goBehind.2.1 11 = .ok (.getfield 21, 3) := by decide +kernel
theorem dX5_goBehind_14 : decode yX5_goBehind.2.1 14 = .ok (.iload_n 2, 1) := by decide +kernel
theorem dX5_goBehind_15 : decode yX5_goBehind.2.1 15 = .ok (.iaload, 1) := by decide +kernel
theorem dX5_goBehind_16 : decode yX5_goBehind.2.1 16 = .ok (.aload_n 0, 1) := by decide +kernel
theorem dX5_goBehind_17 : decode yX5_goBehind.2.1 17 = .ok (.getfield 11, 3) := by decide +kernel
theorem dX5_goBehind_20 : decode yX5_goBehind.2.1 20 = .ok (.iload_n 2, 1) := by decide +kernel
theorem dX5_goBehind_21 : decode yX5_goBehind.2.1 21 = .ok (.aaload, 1) := by decide +kernel
theorem dX5_goBehind_22 : decode yX5_goBehind.2.1 22 = .ok (.getfield 34, 3) := by decide +kernel
theorem dX5_goBehind_25 : decode yX5_goBehind.2.1 25 = .ok (.if_icmp .ge 22, 3) := by decide +kernel
theorem dX5_goBehind_28 : decode yX5_goBehind.2.1 28 = .ok (.aload_n 0, 1) := by decide +kernel
theorem dX5_goBehind_29 : decode yX5_goBehind.2.1 29 = .ok (.iload_n 2, 1) := by decide +kernel
theorem dX5_goBehind_30 : decode yX5_goBehind.2.1 30 = .ok (.invokevirtual 62, 3) := by decide +kernel
theorem dX5_goBehind_33 : decode yX5_goBehind.2.1 33 = .ok (.iload_n 1, 1) := by decide +kernel
theorem dX5_goBehind_34 : decode yX5_goBehind.2.1 34 = .ok (.if_icmp .ne 13, 3) := by decide +kernel
theorem dX5_goBehind_37 : decode yX5_goBehind.2.1 37 = .ok (.aload_n 0, 1) := by decide +kernel
theorem dX5_goBehind_38 : decode yX5_goBehind.2.1 38 = .ok (.getfield 21, 3) := by decide +kernel
theorem dX5_goBehind_41 : decode yX5_goBehind.2.1 41 = .ok (.iload_n 2, 1) := by decide +kernel
theorem dX5_goBehind_42 : decode yX5_goBehind.2.1 42 = .ok (.dup2, 1) := by decide +kernel
theorem dX5_goBehind_43 : decode yX5_goBehind.2.1 43 = .ok (.iaload, 1) := by decide +kernel
theorem dX5_goBehind_44 : decode yX5_goBehind.2.1 44 = .ok (.iconst 1, 1) := by decide +kernel
theorem dX5_goBehind_45 : decode yX5_goBehind.2.1 45 = .ok (.iadd, 1) := by decide +kernel
theorem dX5_goBehind_46 : decode yX5_goBehind.2.1 46 = .ok (.iastore, 1) := by decide +kernel
theorem dX5_goBehind_47 : decode yX5_goBehind.2.1 47 = .ok (.iinc 2 1, 3) := by decide +kernel
theorem dX5_goBehind_50 : decode yX5_goBehind.2.1 50 = .ok (.goto (-48), 3) := by decide +kernel
theorem dX5_goBehind_53 : decode yX5_goBehind.2.1 53 = .ok (.return_, 1) := by decide +kernel
theorem dX5_head_0 : decode yX5_head.2.1 0 = .ok (.aload_n 0, 1) := by decide +kernel
theorem dX5_head_1 : decode yX5_head.2.1 1 = .ok (.getfield 11, 3) := by decide +kernel
theorem dX5_head_4 : decode yX5_head.2.1 4 = .ok (.iload_n 1, 1) := by decide +kernel
theorem dX5_head_5 : decode yX5_head.2.1 5 = .ok (.aaload, 1) := by decide +kernel
theorem dX5_head_6 : decode yX5_head.2.1 6 = .ok (.getfield 72, 3) := by decide +kernel
theorem dX5_head_9 : decode yX5_head.2.1 9 = .ok (.aload_n 0, 1) := by decide +kernel
theorem dX5_head_10 : decode yX5_head.2.1 10 = .ok (.getfield 21, 3) := by decide +kernel
theorem dX5_head_13 : decode yX5_head.2.1 13 = .ok (.iload_n 1, 1) := by decide +kernel
theorem dX5_head_14 : decode yX5_head.2.1 14 = .ok (.iaload, 1) := by decide +kernel
theorem dX5_head_15 : decode yX5_head.2.1 15 = .ok (.iaload, 1) := by decide +kernel
theorem dX5_head_16 : decode yX5_head.2.1 16 = .ok (.ireturn, 1) := by decide +kernel
theorem dX5_goToEnd_0 : decode yX5_goToEnd.2.1 0 = .ok (.aload_n 0, 1) := by decide +kernel
theorem dX5_goToEnd_1 : decode yX5_goToEnd.2.1 1 = .ok (.getfield 40, 3) := by decide +kernel
theorem dX5_goToEnd_4 : decode yX5_goToEnd.2.1 4 = .ok (.ifnonnull 12, 3) := by decide +kernel
theorem dX5_goToEnd_7 : decode yX5_goToEnd.2.1 7 = .ok (.aload_n 0, 1) := by decide +kernel
theorem dX5_goToEnd_8 : decode yX5_goToEnd.2.1 8 = .ok (.sipush 20000, 3) := by decide +kernel
theorem dX5_goToEnd_11 : decode yX5_goToEnd.2.1 11 = .ok (.newarray .int, 2) := by decide +kernel
theorem dX5_goToEnd_13 : decode yX5_goToEnd.2.1 13 = .ok (.putfield 40, 3) := by decide +kernel
theorem dX5_goToEnd_16 : decode yX5_goToEnd.2.1 16 = .ok (.iconst 0, 1) := by decide +kernel
theorem dX5_goToEnd_17 : decode yX5_goToEnd.2.1 17 = .ok (.istore_n 1, 1) := by decide +kernel
theorem dX5_goToEnd_18 : decode yX5_goToEnd.2.1 18 = .ok (.iload_n 1, 1) := by decide +kernel
theorem dX5_goToEnd_19 : decode yX5_goToEnd.2.1 19 = .ok (.aload_n 0, 1) := by decide +kernel
theorem dX5_goToEnd_20 : decode yX5_goToEnd.2.1 20 = .ok (.getfield 27, 3) := by decide +kernel
theorem dX5_goToEnd_23 : decode yX5_goToEnd.2.1 23 = .ok (.if_icmp .ge 24, 3) := by decide +kernel
theorem dX5_goToEnd_26 : decode yX5_goToEnd.2.1 26 = .ok (.aload_n 0, 1) := by decide +kernel
theorem dX5_goToEnd_27 : decode yX5_goToEnd.2.1 27 = .ok (.getfield 21, 3) := by decide +kernel
theorem dX5_goToEnd_30 : decode yX5_goToEnd.2.1 30 = .ok (.iload_n 1, 1) := by decide +kernel
theorem dX5_goToEnd_31 : decode yX5_goToEnd.2.1 31 = .ok (.aload_n 0, 1) := by decide +kernel
theorem dX5_goToEnd_32 : decode yX5_goToEnd.2.1 32 = .ok (.getfield 11, 3) := by decide +kernel
theorem dX5_goToEnd_35 : decode yX5_goToEnd.2.1 35 = .ok (.iload_n 1, 1) := by decide +kernel
theorem dX5_goToEnd_36 : decode yX5_goToEnd.2.1 36 = .ok (.aaload, 1) := by decide +kernel
theorem dX5_goToEnd_37 : decode yX5_goToEnd.2.1 37 = .ok (.getfield 34, 3) := by decide +kernel
theorem dX5_goToEnd_40 : decode yX5_goToEnd.2.1 40 = .ok (.iastore, 1) := by decide +kernel
theorem dX5_goToEnd_41 : decode yX5_goToEnd.2.1 41 = .ok (.iinc 1 1, 3) := by decide +kernel
theorem dX5_goToEnd_44 : decode yX5_goToEnd.2.1 44 = .ok (.goto (-26), 3) := by decide +kernel
theorem dX5_goToEnd_47 : decode yX5_goToEnd.2.1 47 = .ok (.return_, 1) := by decide +kernel
theorem dX5_goToBeginning_0 : decode yX5_goToBeginning.2.1 0 = .ok (.iconst 0, 1) := by decide +kernel
theorem dX5_goToBeginning_1 : decode yX5_goToBeginning.2.1 1 = .ok (.istore_n 1, 1) := by decide +kernel
theorem dX5_goToBeginning_2 : decode yX5_goToBeginning.2.1 2 = .ok (.iload_n 1, 1) := by decide +kernel
theorem dX5_goToBeginning_3 : decode yX5_goToBeginning.2.1 3 = .ok (.aload_n 0, 1) := by decide +kernel
theorem dX5_goToBeginning_4 : decode yX5_goToBeginning.2.1 4 = .ok (.getfield 27, 3) := by decide +kernel
theorem dX5_goToBeginning_7 : decode yX5_goToBeginning.2.1 7 = .ok (.if_icmp .ge 16, 3) := by decide +kernel
theorem dX5_goToBeginning_10 : decode yX5_goToBeginning.2.1 10 = .ok (.aload_n 0, 1) := by decide +kernel
theorem dX5_goToBeginning_11 : decode yX5_goToBeginning.2.1 11 = .ok (.getfield 21, 3) := by decide +kernel
theorem dX5_goToBeginning_14 : decode yX5_goToBeginning.2.1 14 = .ok (.iload_n 1, 1) := by decide +kernel
theorem dX5_goToBeginning_15 : decode yX5_goToBeginning.2.1 15 = .ok (.iconst 0, 1) := by decide +kernel
theorem dX5_goToBeginning_16 : decode yX5_goToBeginning.2.1 16 = .ok (.iastore, 1) := by decide +kernel
theorem dX5_goToBeginning_17 : decode yX5_goToBeginning.2.1 17 = .ok (.iinc 1 1, 3) := by decide +kernel
theorem dX5_goToBeginning_20 : decode yX5_goToBeginning.2.1 20 = .ok (.goto (-18), 3) := by decide +kernel
theorem dX5_goToBeginning_23 : decode yX5_goToBeginning.2.1 23 = .ok (.return_, 1) := by decide +kernel
theorem dX5_stepBack_0 : decode yX5_stepBack.2.1 0 = .ok (.iconst 0, 1) := by decide +kernel
theorem dX5_stepBack_1 : decode yX5_stepBack.2.1 1 = .ok (.istore_n 1, 1) := by decide +kernel
theorem dX5_stepBack_2 : decode yX5_stepBack.2.1 2 = .ok (.iload_n 1, 1) := by decide +kernel
theorem dX5_stepBack_3 : decode yX5_stepBack.2.1 3 = .ok (.aload_n 0, 1) := by decide +kernel
theorem dX5_stepBack_4 : decode yX5_stepBack.2.1 4 = .ok (.getfield 27, 3) := by decide +kernel
theorem dX5_stepBack_7 : decode yX5_stepBack.2.1 7 = .ok (.if_icmp .ge 44, 3) := by decide +kernel
theorem dX5_stepBack_10 : decode yX5_stepBack.2.1 10 = .ok (.aload_n 0, 1) := by decide +kernel
theorem dX5_stepBack_11 : decode yX5_stepBack.2.1 11 = .ok (.getfield 21, 3) := by decide +kernel
theorem dX5_stepBack_14 : decode yX5_stepBack.2.1 14 = .ok (.iload_n 1, 1) := by decide +kernel
theorem dX5_stepBack_15 : decode yX5_stepBack.2.1 15 = .ok (.iaload, 1) := by decide +kernel
theorem dX5_stepBack_16 : decode yX5_stepBack.2.1 16 = .ok (.ifCond .le 14, 3) := by decide +kernel
theorem dX5_stepBack_19 : decode yX5_stepBack.2.1 19 = .ok (.aload_n 0, 1) := by decide +kernel
theorem dX5_stepBack_20 : decode yX5_stepBack.2.1 20 = .ok (.getfield 21, 3) := by decide +kernel
theorem dX5_stepBack_23 : decode yX5_stepBack.2.1 23 = .ok (.iload_n 1, 1) := by decide +kernel
theorem dX5_stepBack_24 : decode yX5_stepBack.2.1 24 = .ok (.dup2, 1) := by decide +kernel
theorem dX5_stepBack_25 : decode yX5_stepBack.2.1 25 = .ok (.iaload, 1) := by decide +kernel
theorem dX5_stepBack_26 : decode yX5_stepBack.2.1 26 = .ok (.iconst 1, 1) := by decide +kernel
theorem dX5_stepBack_27 : decode yX5_stepBack.2.1 27 = .ok (.isub, 1) := by decide +kernel
theorem dX5_stepBack_28 : decode yX5_stepBack.2.1 28 = .ok (.iastore, 1) := by decide +kernel
theorem dX5_stepBack_29 : decode yX5_stepBack.2.1 29 = .ok (.return_, 1) := by decide +kernel
theorem dX5_stepBack_30 : decode yX5_stepBack.2.1 30 = .ok (.aload_n 0, 1) := by decide +kernel
theorem dX5_stepBack_31 : decode yX5_stepBack.2.1 31 = .ok (.getfield 21, 3) := by decide +kernel
theorem dX5_stepBack_34 : decode yX5_stepBack.2.1 34 = .ok (.iload_n 1, 1) := by decide +kernel
theorem dX5_stepBack_35 : decode yX5_stepBack.2.1 35 = .ok (.aload_n 0, 1) := by decide +kernel
theorem dX5_stepBack_36 : decode yX5_stepBack.2.1 36 = .ok (.getfield 11, 3) := by decide +kernel
theorem dX5_stepBack_39 : decode yX5_stepBack.2.1 39 = .ok (.iload_n 1, 1) := by decide +kernel
theorem dX5_stepBack_40 : decode yX5_stepBack.2.1 40 = .ok (.aaload, 1) := by decide +kernel
theorem dX5_stepBack_41 : decode yX5_stepBack.2.1 41 = .ok (.getfield 34, 3) := by decide +kernel
theorem dX5_stepBack_44 : decode yX5_stepBack.2.1 44 = .ok (.iastore, 1) := by decide +kernel
theorem dX5_stepBack_45 : decode yX5_stepBack.2.1 45 = .ok (.iinc 1 1, 3) := by decide +kernel
theorem dX5_stepBack_48 : decode yX5_stepBack.2.1 48 = .ok (.goto (-46), 3) := by decide +kernel
theorem dX5_stepBack_51 : decode yX5_stepBack.2.1 51 = .ok (.return_, 1) := by decide +kernel
theorem dX6_init_0 : decode yX6_init.2.1 0 = .ok (.aload_n 0, 1) := by decide +kernel
theorem dX6_init_1 : decode yX6_init.2.1 1 = .ok (.invokespecial 3, 3) := by decide +kernel
theorem dX6_init_4 : decode yX6_init.2.1 4 = .ok (.aload_n 0, 1) := by decide +kernel
theorem dX6_init_5 : decode yX6_init.2.1 5 = .ok (.bipush 40, 2) := by decide +kernel
theorem dX6_init_7 : decode yX6_init.2.1 7 = .ok (.newarray .int, 2) := by decide +kernel
theorem dX6_init_9 : decode yX6_init.2.1 9 = .ok (.putfield 9, 3) := by decide +kernel
theorem dX6_init_12 : decode yX6_init.2.1 12 = .ok (.aload_n 0, 1) := by decide +kernel
theorem dX6_init_13 : decode yX6_init.2.1 13 = .ok (.iconst 4, 1) := by decide +kernel
theorem dX6_init_14 : decode yX6_init.2.1 14 = .ok (.newarray .int, 2) := by decide +kernel
theorem dX6_init_16 : decode yX6_init.2.1 16 = .ok (.putfield 15, 3) := by decide +kernel
theorem dX6_init_19 : decode yX6_init.2.1 19 = .ok (.return_, 1) := by decide +kernel
theorem dX6_read_0 : decode yX6_read.2.1 0 = .ok (.aload_n 0, 1) := by decide +kernel
theorem dX6_read_1 : decode yX6_read.2.1 1 = .ok (.iconst 0, 1) := by decide +kernel
theorem dX6_read_2 : decode yX6_read.2.1 2 = .ok (.putfield 18, 3) := by decide +kernel
theorem dX6_read_5 : decode yX6_read.2.1 5 = .ok (.aload_n 0, 1) := by decide +kernel
theorem dX6_read_6 : decode yX6_read.2.1 6 = .ok (.iconst 0, 1) := by decide +kernel
theorem dX6_read_7 : decode yX6_read.2.1 7 = .ok (.putfield 22, 3) := by decide +kernel
theorem dX6_read_10 : decode yX6_read.2.1 10 = .ok (.aload_n 0, 1) := by decide +kernel
theorem dX6_read_11 : decode yX6_read.2.1 11 = .ok (.iconst (-1), 1) := by decide +kernel
theorem dX6_read_12 : decode yX6_read.2.1 12 = .ok (.putfield 25, 3) := by decide +kernel
theorem dX6_read_15 : decode yX6_read.2.1 15 = .ok (.aload_n 1, 1) := by decide +kernel
theorem dX6_read_16 : decode yX6_read.2.1 16 = .ok (.iconst 0, 1) := by decide +kernel
theorem dX6_read_17 : decode yX6_read.2.1 17 = .ok (.invokestatic 28, 3) := by decide +kernel
theorem dX6_read_20 : decode yX6_read.2.1 20 = .ok (.istore_n 3, 1) := by decide +kernel
theorem dX6_read_21 : decode yX6_read.2.1 21 = .ok (.iload_n 3, 1) := by decide +kernel
theorem dX6_read_22 : decode yX6_read.2.1 22 = .ok (.aload_n 1, 1) := by decide +kernel
theorem dX6_read_23 : decode yX6_read.2.1 23 = .ok (.getfield 32, 3) := by decide +kernel
theorem dX6_read_26 : decode yX6_read.2.1 26 = .ok (.if_icmp .ge 67, 3) := by decide +kernel
theorem dX6_read_29 : decode yX6_read.2.1 29 = .ok (.aload_n 1, 1) := by decide +kernel
theorem dX6_read_30 : decode yX6_read.2.1 30 = .ok (.getfield 35, 3) := by decide +kernel
theorem dX6_read_33 : decode yX6_read.2.1 33 = .ok (.iload_n 3, 1) := by decide +kernel
theorem dX6_read_34 : decode yX6_read.2.1 34 = .ok (.iaload, 1) := by decide +kernel
theorem dX6_read_35 : decode yX6_read.2.1 35 = .ok (.bipush 32, 2) := by decide +kernel
theorem dX6_read_37 : decode yX6_read.2.1 37 = .ok (.if_icmp .ne 34, 3) := by decide +kernel
theorem dX6_read_40 : decode yX6_read.2.1 40 = .ok (.aload_n 0, 1) := by decide +kernel
theorem dX6_read_41 : decode yX6_read.2.1 41 = .ok (.getfield 22, 3) := by decide +kernel
theorem dX6_read_44 : decode yX6_read.2.1 44 = .ok (.ifCond .ne 27, 3) := by decide +kernel
theorem dX6_read_47 : decode yX6_read.2.1 47 = .ok (.aload_n 1, 1) := by decide +kernel
theorem dX6_read_48 : decode yX6_read.2.1 48 = .ok (.iload_n 3, 1) := by decide +kernel
theorem dX6_read_49 : decode yX6_read.2.1 49 = .ok (.invokestatic 28, 3) := by decide +kernel
theorem dX6_read_52 : decode yX6_read.2.1 52 = .ok (.istore 4, 2) := by decide +kernel
theorem dX6_read_54 : decode yX6_read.2.1 54 = .ok (.iload 4, 2) := by decide +kernel
theorem dX6_read_56 : decode yX6_read.2.1 56 = .ok (.aload_n 1, 1) := by decide +kernel
theorem dX6_read_57 : decode yX6_read.2.1 57 = .ok (.getfield 32, 3) := by decide +kernel
theorem dX6_read_60 : decode yX6_read.2.1 60 = .ok (.if_icmp .ne 8, 3) := by decide +kernel
theorem dX6_read_63 : decode yX6_read.2.1 63 = .ok (.bipush (-9), 2) := by decide +kernel
theorem dX6_read_65 : decode yX6_read.2.1 65 = .ok (.goto 5, 3) := by decide +kernel
theorem dX6_read_68 : decode yX6_read.2.1 68 = .ok (.iload 4, 2) := by decide +kernel
theorem dX6_read_70 : decode yX6_read.2.1 70 = .ok (.ireturn, 1) := by decide +kernel
theorem dX6_read_71 : decode yX6_read.2.1 71 = .ok (.aload_n 0, 1) := by decide +kernel
theorem dX6_read_72 : decode yX6_read.2.1 72 = .ok (.aload_n 1, 1) := by decide +kernel
theorem dX6_read_73 : decode yX6_read.2.1 73 = .ok (.getfield 35, 3) := by decide +kernel
theorem dX6_read_76 : decode yX6_read.2.1 76 = .ok (.iload_n 3, 1) := by decide +kernel
theorem dX6_read_77 : decode yX6_read.2.1 77 = .ok (.iaload, 1) := by decide +kernel
theorem dX6_read_78 : decode yX6_read.2.1 78 = .ok (.iload_n 2, 1) := by decide +kernel
theorem dX6_read_79 : decode yX6_read.2.1 79 = .ok (.invokevirtual 38, 3) := by decide +kernel
theorem dX6_read_82 : decode yX6_read.2.1 82 = .ok (.ifCond .ne 5, 3) := by decide +kernel
theorem dX6_read_85 : decode yX6_read.2.1 85 = .ok (.iload_n 3, 1) := by decide +kernel
theorem dX6_read_86 : decode yX6_read.2.1 86 = .ok (.ireturn, 1) := by decide +kernel
theorem dX6_read_87 : decode yX6_read.2.1 87 = .ok (.iinc 3 1, 3) := by decide +kernel
theorem dX6_read_90 : decode yX6_read.2.1 90 = .ok (.goto (-69), 3) := by decide +kernel
theorem dX6_read_93 : decode yX6_read.2.1 93 = .ok (.aload_n 0, 1) := by decide +kernel
theorem dX6_read_94 : decode yX6_read.2.1 94 = .ok (.getfield 22, 3) := by decide +kernel
theorem dX6_read_97 : decode yX6_read.2.1 97 = .ok (.ifCond .ne 8, 3) := by decide +kernel
theorem dX6_read_100 : decode yX6_read.2.1 100 = .ok (.bipush (-9), 2) := by decide +kernel
theorem dX6_read_102 : decode yX6_read.2.1 102 = .ok (.goto 7, 3) := by decide +kernel
theorem dX6_read_105 : decode yX6_read.2.1 105 = .ok (.aload_n 1, 1) := by decide +kernel
theorem dX6_read_106 : decode yX6_read.2.1 106 = .ok (.getfield 32, 3) := by decide +kernel
theorem dX6_read_109 : decode yX6_read.2.1 109 = .ok (.ireturn, 1) := by decide +kernel
theorem dX6_behindBlanks_0 : decode yX6_behindBlanks.2.1 0 = .ok (.iload_n 1, 1) := by decide +kernel
theorem dX6_behindBlanks_1 : decode yX6_behindBlanks.2.1 1 = .ok (.istore_n 2, 1) := by decide +kernel
theorem dX6_behindBlanks_2 : decode yX6_behindBlanks.2.1 2 = .ok (.iload_n 2, 1) := by decide +kernel
theorem dX6_behindBlanks_3 : decode yX6_behindBlanks.2.1 3 = .ok (.aload_n 0, 1) := by decide +kernel
theorem dX6_behindBlanks_4 : decode yX6_behindBlanks.2.1 4 = .ok (.getfield 32, 3) := by decide +kernel
theorem dX6_behindBlanks_7 : decode yX6_behindBlanks.2.1 7 = .ok (.if_icmp .ge 20, 3) := by decide +kernel
theorem dX6_behindBlanks_10 : decode yX6_behindBlanks.2.1 10 = .ok (.aload_n 0, 1) := by decide +kernel
theorem dX6_behindBlanks_11 : decode yX6_behindBlanks.2.1 11 = .ok (.getfield 35, 3) := by decide +kernel
theorem dX6_behindBlanks_14 : decode yX6_behindBlanks.2.1 14 = .ok (.iload_n 2, 1) := by decide +kernel
theorem dX6_behindBlanks_15 : decode yX6_behindBlanks.2.1 15 = .ok (.iaload, 1) := by decide +kernel
theorem dX6_behindBlanks_16 : decode yX6_behindBlanks.2.1 16 = .ok (.bipush 32, 2) := by decide +kernel
theorem dX6_behindBlanks_18 : decode yX6_behindBlanks.2.1 18 = .ok (.if_icmp .ne 9, 3) := by decide +kernel
theorem dX6_behindBlanks_21 : decode yX6_behindBlanks.2.1 21 = .ok (.iinc 2 1, 3) := by decide +kernel
theorem dX6_behindBlanks_24 : decode yX6_behindBlanks.2.1 24 = .ok (.goto (-22), 3) := by decide +kernel
theorem dX6_behindBlanks_27 : decode yX6_behindBlanks.2.1 27 = .ok (.iload_n 2, 1) := by decide +kernel
theorem dX6_behindBlanks_28 : decode yX6_behindBlanks.2.1 28 = .ok (.ireturn, 1) := by decide +kernel
theorem dX6_goesOn_0 : decode yX6_goesOn.2.1 0 = .ok (.iload_n 1, 1) := by decide +kernel
theorem dX6_goesOn_1 : decode yX6_goesOn.2.1 1 = .ok (.bipush 97, 2) := by decide +kernel
theorem dX6_goesOn_3 : decode yX6_goesOn.2.1 3 = .ok (.if_icmp .lt 20, 3) := by decide +kernel
theorem dX6_goesOn_6 : decode yX6_goesOn.2.1 6 = .ok (.iload_n 1, 1) := by decide +kernel
theorem dX6_goesOn_7 : decode yX6_goesOn.2.1 7 = .ok (.bipush 97, 2) := by decide +kernel
theorem dX6_goesOn_9 : decode yX6_goesOn.2.1 9 = .ok (.iload_n 2, 1) := by decide +kernel
theorem dX6_goesOn_10 : decode yX6_goesOn.2.1 10 = .ok (.iadd, 1) := by decide +kernel
theorem dX6_goesOn_11 : decode yX6_goesOn.2.1 11 = .ok (.if_icmp .ge 12, 3) := by decide +kernel
theorem dX6_goesOn_14 : decode yX6_goesOn.2.1 14 = .ok (.aload_n 0, 1) := by decide +kernel
theorem dX6_goesOn_15 : decode yX6_goesOn.2.1 15 = .ok (.iload_n 1, 1) := by decide +kernel
theorem dX6_goesOn_16 : decode yX6_goesOn.2.1 16 = .ok (.bipush 97, 2) := by decide +kernel
theorem dX6_goesOn_18 : decode yX6_goesOn.2.1 18 = .ok (.isub, 1) := by decide +kernel
theorem dX6_goesOn_19 : decode yX6_goesOn.2.1 19 = .ok (.invokevirtual 42, 3) := by decide +kernel
theorem dX6_goesOn_22 : decode yX6_goesOn.2.1 22 = .ok (.ireturn, 1) := by decide +kernel
theorem dX6_goesOn_23 : decode yX6_goesOn.2.1 23 = .ok (.iload_n 1, 1) := by decide +kernel
theorem dX6_goesOn_24 : decode yX6_goesOn.2.1 24 = .ok (.bipush 40, 2) := by decide +kernel
theorem dX6_goesOn_26 : decode yX6_goesOn.2.1 26 = .ok (.if_icmp .ne 8, 3) := by decide +kernel
theorem dX6_goesOn_29 : decode yX6_goesOn.2.1 29 = .ok (.aload_n 0, 1) := by decide +kernel
theorem dX6_goesOn_30 : decode yX6_goesOn.2.1 30 = .ok (.invokevirtual 46, 3) := by decide +kernel
theorem dX6_goesOn_33 : decode yX6_goesOn.2.1 33 = .ok (.ireturn, 1) := by decide +kernel
theorem dX6_goesOn_34 : decode yX6_goesOn.2.1 34 = .ok (.iload_n 1, 1) := by decide +kernel
theorem dX6_goesOn_35 : decode yX6_goesOn.2.1 35 = .ok (.bipush 41, 2) := by decide +kernel
theorem dX6_goesOn_37 : decode yX6_goesOn.2.1 37 = .ok (.if_icmp .ne 8, 3) := by decide +kernel
theorem dX6_goesOn_40 : decode yX6_goesOn.2.1 40 = .ok (.aload_n 0, 1) := by decide +kernel
theorem dX6_goesOn_41 : decode yX6_goesOn.2.1 41 = .ok (.invokevirtual 50, 3) := by decide +kernel
theorem dX6_goesOn_44 : decode yX6_goesOn.2.1 44 = .ok (.ireturn, 1) := by decide +kernel
theorem dX6_goesOn_45 : decode yX6_goesOn.2.1 45 = .ok (.iload_n 1, 1) := by decide +kernel
theorem dX6_goesOn_46 : decode yX6_goesOn.2.1 46 = .ok (.bipush 49, 2) := by decide +kernel
theorem dX6_goesOn_48 : decode yX6_goesOn.2.1 48 = .ok (.if_icmp .lt 24, 3) := by decide +kernel
theorem dX6_goesOn_51 : decode yX6_goesOn.2.1 51 = .ok (.iload_n 1, 1) := by decide +kernel
theorem dX6_goesOn_52 : decode yX6_goesOn.2.1 52 = .ok (.bipush 57, 2) := by decide +kernel
theorem dX6_goesOn_54 : decode yX6_goesOn.2.1 54 = .ok (.if_icmp .gt 18, 3) := by decide +kernel
theorem dX6_goesOn_57 : decode yX6_goesOn.2.1 57 = .ok (.aload_n 0, 1) := by decide +kernel
theorem dX6_goesOn_58 : decode yX6_goesOn.2.1 58 = .ok (.iload_n 1, 1) := by decide +kernel
theorem dX6_goesOn_59 : decode yX6_goesOn.2.1 59 = .ok (.bipush 48, 2) := by decide +kernel
theorem dX6_goesOn_61 : decode yX6_goesOn.2.1 61 = .ok (.isub, 1) := by decide +kernel
theorem dX6_goesOn_62 : decode yX6_goesOn.2.1 62 = .ok (.invokevirtual 53, 3) := by decide +kernel
theorem dX6_goesOn_65 : decode yX6_goesOn.2.1 65 = .ok (.ifCond .eq 7, 3) := by decide +kernel
theorem dX6_goesOn_68 : decode yX6_goesOn.2.1 68 = .ok (.iconst 1, 1) := by decide +kernel
theorem dX6_goesOn_69 : decode yX6_goesOn.2.1 69 = .ok (.goto 4, 3) := by decide +kernel
theorem dX6_goesOn_72 : decode yX6_goesOn.2.1 72 = .ok (.iconst 0, 1) := by decide +kernel
theorem dX6_goesOn_73 : decode yX6_goesOn.2.1 73 = .ok (.ireturn, 1) := by decide +kernel
theorem dX6_addLetter_0 : decode yX6_addLetter.2.1 0 = .ok (.aload_n 0, 1) := by decide +kernel
theorem dX6_addLetter_1 : decode yX6_addLetter.2.1 1 = .ok (.aload_n 0, 1) := by decide +kernel
theorem dX6_addLetter_2 : decode yX6_addLetter.2.1 2 = .ok (.getfield 18, 3) := by decide +kernel
theorem dX6_addLetter_5 : decode yX6_addLetter.2.1 5 = .ok (.putfield 25, 3) := by decide +kernel
theorem dX6_addLetter_8 : decode yX6_addLetter.2.1 8 = .ok (.aload_n 0, 1) := by decide +kernel
theorem dX6_addLetter_9 : decode yX6_addLetter.2.1 9 = .ok (.getfield 18, 3) := by decide +kernel
theorem dX6_addLetter_12 : decode yX6_addLetter.2.1 12 = .ok (.bipush 40, 2) := by decide +kernel
theorem dX6_addLetter_14 : decode yX6_addLetter.2.1 14 = .ok (.if_icmp .ge 13, 3) := by decide +kernel
theorem dX6_addLetter_17 : decode yX6_addLetter.2.1 17 = .ok (.aload_n 0, 1) := by decide +kernel
theorem dX6_addLetter_18 : decode yX6_addLetter.2.1 18 = .ok (.getfield 9, 3) := by decide +kernel
theorem dX6_addLetter_21 : decode yX6_addLetter.2.1 21 = .ok (.aload_n 0, 1) := by decide +kernel
theorem dX6_addLetter_22 : decode yX6_addLetter.2.1 22 = .ok (.getfield 18, 3) := by decide +kernel
theorem dX6_addLetter_25 : decode yX6_addLetter.2.1 25 = .ok (.iload_n 1, 1) := by decide +kernel
theorem dX6_addLetter_26 : decode yX6_addLetter.2.1 26 = .ok (.iastore, 1) := by decide +kernel
theorem dX6_addLetter_27 : decode yX6_addLetter.2.1 27 = .ok (.aload_n 0, 1) := by decide +kernel
theorem dX6_addLetter_28 : decode yX6_addLetter.2.1 28 = .ok (.dup, 1) := by decide +kernel
theorem dX6_addLetter_29 : decode yX6_addLetter.2.1 29 = .ok (.getfield 18, 3) := by decide +kernel
theorem dX6_addLetter_32 : decode yX6_addLetter.2.1 32 = .ok (.iconst 1, 1) := by decide +kernel
theorem dX6_addLetter_33 : decode yX6_addLetter.2.1 33 = .ok (.iadd, 1) := by decide +kernel
theorem dX6_addLetter_34 : decode yX6_addLetter.2.1 34 = .ok (.putfield 18, 3) := by decide +kernel
theorem dX6_addLetter_37 : decode yX6_addLetter.2.1 37 = .ok (.iconst 1, 1) := by decide +kernel
theorem dX6_addLetter_38 : decode yX6_addLetter.2.1 38 = .ok (.ireturn, 1) := by decide +kernel
theorem dX6_open_0 : decode yX6_open.2.1 0 = .ok (.aload_n 0, 1) := by decide +kernel
theorem dX6_open_1 : decode yX6_open.2.1 1 = .ok (.getfield 22, 3) := by decide +kernel
theorem dX6_open_4 : decode yX6_open.2.1 4 = .ok (.iconst 4, 1) := by decide +kernel
theorem dX6_open_5 : decode yX6_open.2.1 5 = .ok (.if_icmp .lt 5, 3) := by decide +kernel
theorem dX6_open_8 : decode yX6_open.2.1 8 = .ok (.iconst 0, 1) := by decide +kernel
theorem dX6_open_9 : decode yX6_open.2.1 9 = .ok (.ireturn, 1) := by decide +kernel
theorem dX6_open_10 : decode yX6_open.2.1 10 = .ok (.aload_n 0, 1) := by decide +kernel
theorem dX6_open_11 : decode yX6_open.2.1 11 = .ok (.getfield 15, 3) := by decide +kernel
theorem dX6_open_14 : decode yX6_open.2.1 14 = .ok (.aload_n 0, 1) := by decide +kernel
theorem dX6_open_15 : decode yX6_open.2.1 15 = .ok (.getfield 22, 3) := by decide +kernel
theorem dX6_open_18 : decode yX6_open.2.1 18 = .ok (.aload_n 0, 1) := by decide +kernel
theorem dX6_open_19 : decode yX6_open.2.1 19 = .ok (.getfield 18, 3) := by decide +kernel
theorem dX6_open_22 : decode yX6_open.2.1 22 = .ok (.iastore, 1) := by decide +kernel
theorem dX6_open_23 : decode yX6_open.2.1 23 = .ok (.aload_n 0, 1) := by decide +kernel
theorem dX6_open_24 : decode yX6_open.2.1 24 = .ok (.dup, 1) := by decide +kernel
theorem dX6_open_25 : decode yX6_open.2.1 25 = .ok (.getfield 22, 3) := by decide +kernel
theorem dX6_open_28 : decode yX6_open.2.1 28 = .ok (.iconst 1, 1) := by decide +kernel
theorem dX6_open_29 : decode yX6_open.2.1 29 = .ok (.iadd, 1) := by decide +kernel
theorem dX6_open_30 : decode yX6_open.2.1 30 = .ok (.putfield 22, 3) := by decide +kernel
theorem dX6_open_33 : decode yX6_open.2.1 33 = .ok (.aload_n 0, 1) := by decide +kernel
theorem dX6_open_34 : decode yX6_open.2.1 34 = .ok (.iconst (-1), 1) := by decide +kernel
theorem dX6_open_35 : decode yX6_open.2.1 35 = .ok (.putfield 25, 3) := by decide +kernel
theorem dX6_open_38 : decode yX6_open.2.1 38 = .ok (.iconst 1, 1) := by decide +kernel
theorem dX6_open_39 : decode yX6_open.2.1 39 = .ok (.ireturn, 1) := by decide +kernel
theorem dX6_close_0 : decode yX6_close.2.1 0 = .ok (.aload_n 0, 1) := by decide +kernel
theorem dX6_close_1 : decode yX6_close.2.1 1 = .ok (.getfield 22, 3) := by decide +kernel
theorem dX6_close_4 : decode yX6_close.2.1 4 = .ok (.ifCond .eq 21, 3) := by decide +kernel
theorem dX6_close_7 : decode yX6_close.2.1 7 = .ok (.aload_n 0, 1) := by decide +kernel
theorem dX6_close_8 : decode yX6_close.2.1 8 = .ok (.getfield 15, 3) := by decide +kernel
theorem dX6_close_11 : decode yX6_close.2.1 11 = .ok (.aload_n 0, 1) := by decide +kernel
theorem dX6_close_12 : decode yX6_close.2.1 12 = .ok (.getfield 22, 3) := by decide +kernel
theorem dX6_close_15 : decode yX6_close.2.1 15 = .ok (.iconst 1, 1) := by decide +kernel
theorem dX6_close_16 : decode yX6_close.2.1 16 = .ok (.isub, 1) := by decide +kernel
theorem dX6_close_17 : decode yX6_close.2.1 17 = .ok (.iaload, 1) := by decide +kernel
theorem dX6_close_18 : decode yX6_close.2.1 18 = .ok (.aload_n 0, 1) := by decide +kernel
theorem dX6_close_19 : decode yX6_close.2.1 19 = .ok (.getfield 18, 3) := by decide +kernel
theorem dX6_close_22 : decode yX6_close.2.1 22 = .ok (.if_icmp .ne 5, 3) := by decide +kernel
theorem dX6_close_25 : decode yX6_close.2.1 25 = .ok (.iconst 0, 1) := by decide +kernel
theorem dX6_close_26 : decode yX6_close.2.1 26 = .ok (.ireturn, 1) := by decide +kernel
theorem dX6_close_27 : decode yX6_close.2.1 27 = .ok (.aload_n 0, 1) := by decide +kernel
theorem dX6_close_28 : decode yX6_close.2.1 28 = .ok (.dup, 1) := by decide +kernel
theorem dX6_close_29 : decode yX6_close.2.1 29 = .ok (.getfield 22, 3) := by decide +kernel
theorem dX6_close_32 : decode yX6_close.2.1 32 = .ok (.iconst 1, 1) := by decide +kernel
theorem dX6_close_33 : decode yX6_close.2.1 33 = .ok (.isub, 1) := by decide +kernel
theorem dX6_close_34 : decode yX6_close.2.1 34 = .ok (.putfield 22, 3) := by decide +kernel
theorem dX6_close_37 : decode yX6_close.2.1 37 = .ok (.aload_n 0, 1) := by decide +kernel
theorem dX6_close_38 : decode yX6_close.2.1 38 = .ok (.aload_n 0, 1) := by decide +kernel
theorem dX6_close_39 : decode yX6_close.2.1 39 = .ok (.getfield 15, 3) := by decide +kernel
theorem dX6_close_42 : decode yX6_close.2.1 42 = .ok (.aload_n 0, 1) := by decide +kernel
theorem dX6_close_43 : decode yX6_close.2.1 43 = .ok (.getfield 22, 3) := by decide +kernel
theorem dX6_close_46 : decode yX6_close.2.1 46 = .ok (.iaload, 1) := by decide +kernel
theorem dX6_close_47 : decode yX6_close.2.1 47 = .ok (.putfield 25, 3) := by decide +kernel
theorem dX6_close_50 : decode yX6_close.2.1 50 = .ok (.iconst 1, 1) := by decide +kernel
theorem dX6_close_51 : decode yX6_close.2.1 51 = .ok (.ireturn, 1) := by decide +kernel
theorem dX6_repeat_0 : decode yX6_repeat.2.1 0 = .ok (.aload_n 0, 1) := by decide +kernel
theorem dX6_repeat_1 : decode yX6_repeat.2.1 1 = .ok (.getfield 25, 3) := by decide +kernel
theorem dX6_repeat_4 : decode yX6_repeat.2.1 4 = .ok (.ifCond .ge 5, 3) := by decide +kernel
theorem dX6_repeat_7 : decode yX6_repeat.2.1 7 = .ok (.iconst 0, 1) := by decide +kernel
theorem dX6_repeat_8 : decode yX6_repeat.2.1 8 = .ok (.ireturn, 1) := by decide +kernel
theorem dX6_repeat_9 : decode yX6_repeat.2.1 9 = .ok (.aload_n 0, 1) := by decide +kernel
theorem dX6_repeat_10 : decode yX6_repeat.2.1 10 = .ok (.getfield 18, 3) := by decide +kernel
theorem dX6_repeat_13 : decode yX6_repeat.2.1 13 = .ok (.aload_n 0, 1) := by decide +kernel
theorem dX6_repeat_14 : decode yX6_repeat.2.1 14 = .ok (.getfield 25, 3) := by decide +kernel
theorem dX6_repeat_17 : decode yX6_repeat.2.1 17 = .ok (.isub, 1) := by decide +kernel
theorem dX6_repeat_18 : decode yX6_repeat.2.1 18 = .ok (.istore_n 2, 1) := by decide +kernel
theorem dX6_repeat_19 : decode yX6_repeat.2.1 19 = .ok (.aload_n 0, 1) := by decide +kernel
theorem dX6_repeat_20 : decode yX6_repeat.2.1 20 = .ok (.getfield 25, 3) := by decide +kernel
theorem dX6_repeat_23 : decode yX6_repeat.2.1 23 = .ok (.iload_n 2, 1) := by decide +kernel
theorem dX6_repeat_24 : decode yX6_repeat.2.1 24 = .ok (.iload_n 1, 1) := by decide +kernel
theorem dX6_repeat_25 : decode yX6_repeat.2.1 25 = .ok (.imul, 1) := by decide +kernel
theorem dX6_repeat_26 : decode yX6_repeat.2.1 26 = .ok (.iadd, 1) := by decide +kernel
theorem dX6_repeat_27 : decode yX6_repeat.2.1 27 = .ok (.istore_n 3, 1) := by decide +kernel
theorem dX6_repeat_28 : decode yX6_repeat.2.1 28 = .ok (.aload_n 0, 1) := by decide +kernel
theorem dX6_repeat_29 : decode yX6_repeat.2.1 29 = .ok (.getfield 18, 3) := by decide +kernel
theorem dX6_repeat_32 : decode yX6_repeat.2.1 32 = .ok (.istore 4, 2) := by decide +kernel
theorem dX6_repeat_34 : decode yX6_repeat.2.1 34 = .ok (.iload 4, 2) := by decide +kernel
theorem dX6_repeat_36 : decode yX6_repeat.2.1 36 = .ok (.iload_n 3, 1) := by decide +kernel
theorem dX6_repeat_37 : decode yX6_repeat.2.1 37 = .ok (.if_icmp .ge 32, 3) := by decide +kernel
theorem dX6_repeat_40 : decode yX6_repeat.2.1 40 = .ok (.iload 4, 2) := by decide +kernel
theorem dX6_repeat_42 : decode yX6_repeat.2.1 42 = .ok (.bipush 40, 2) := by decide +kernel
theorem dX6_repeat_44 : decode yX6_repeat.2.1 44 = .ok (.if_icmp .ge 25, 3) := by decide +kernel
theorem dX6_repeat_47 : decode yX6_repeat.2.1 47 = .ok (.aload_n 0, 1) := by decide +kernel
theorem dX6_repeat_48 : decode yX6_repeat.2.1 48 = .ok (.getfield 9, 3) := by decide +kernel
theorem dX6_repeat_51 : decode yX6_repeat.2.1 51 = .ok (.iload 4, 2) := by decide +kernel
theorem dX6_repeat_53 : decode yX6_repeat.2.1 53 = .ok (.aload_n 0, 1) := by decide +kernel
theorem dX6_repeat_54 : decode yX6_repeat.2.1 54 = .ok (.getfield 9, 3) := by decide +kernel
theorem dX6_repeat_57 : decode yX6_repeat.2.1 57 = .ok (.iload 4, 2) := by decide +kernel
theorem dX6_repeat_59 : decode yX6_repeat.2.1 59 = .ok (.iload_n 2, 1) := by decide +kernel
theorem dX6_repeat_60 : decode yX6_repeat.2.1 60 = .ok (.isub, 1) := by decide +kernel
theorem dX6_repeat_61 : decode yX6_repeat.2.1 61 = .ok (.iaload, 1) := by decide +kernel
theorem dX6_repeat_62 : decode yX6_repeat.2.1 62 = .ok (.iastore, 1) := by decide +kernel
theorem dX6_repeat_63 : decode yX6_repeat.2.1 63 = .ok (.iinc 4 1, 3) := by decide +kernel
theorem dX6_repeat_66 : decode yX6_repeat.2.1 66 = .ok (.goto (-32), 3) := by decide +kernel
theorem dX6_repeat_69 : decode yX6_repeat.2.1 69 = .ok (.aload_n 0, 1) := by decide +kernel
theorem dX6_repeat_70 : decode yX6_repeat.2.1 70 = .ok (.iload_n 3, 1) := by decide +kernel
theorem dX6_repeat_71 : decode yX6_repeat.2.1 71 = .ok (.putfield 18, 3) := by decide +kernel
theorem dX6_repeat_74 : decode yX6_repeat.2.1 74 = .ok (.aload_n 0, 1) := by decide +kernel
theorem dX6_repeat_75 : decode yX6_repeat.2.1 75 = .ok (.iconst (-1), 1) := by decide +kernel
theorem dX6_repeat_76 : decode yX6_repeat.2.1 76 = .ok (.putfield 25, 3) := by decide +kernel
theorem dX6_repeat_79 : decode yX6_repeat.2.1 79 = .ok (.iconst 1, 1) := by decide +kernel
theorem dX6_repeat_80 : decode yX6_repeat.2.1 80 = .ok (.ireturn, 1) := by decide +kernel
theorem dX7_init_0 : decode yX7_init.2.1 0 = .ok (.aload_n 0, 1) := by decide +kernel
theorem dX7_init_1 : decode yX7_init.2.1 1 = .ok (.invokespecial 3, 3) := by decide +kernel
theorem dX7_init_4 : decode yX7_init.2.1 4 = .ok (.aload_n 0, 1) := by decide +kernel
theorem dX7_init_5 : decode yX7_init.2.1 5 = .ok (.bipush 40, 2) := by decide +kernel
theorem dX7_init_7 : decode yX7_init.2.1 7 = .ok (.newarray .int, 2) := by decide +kernel
theorem dX7_init_9 : decode yX7_init.2.1 9 = .ok (.putfield 9, 3) := by decide +kernel
theorem dX7_init_12 : decode yX7_init.2.1 12 = .ok (.aload_n 0, 1) := by decide +kernel
theorem dX7_init_13 : decode yX7_init.2.1 13 = .ok (.bipush 40, 2) := by decide +kernel
theorem dX7_init_15 : decode yX7_init.2.1 15 = .ok (.newarray .int, 2) := by decide +kernel
theorem dX7_init_17 : decode yX7_init.2.1 17 = .ok (.putfield 15, 3) := by decide +kernel
theorem dX7_init_20 : decode yX7_init.2.1 20 = .ok (.aload_n 0, 1) := by decide +kernel
theorem dX7_init_21 : decode yX7_init.2.1 21 = .ok (.bipush 41, 2) := by decide +kernel
theorem dX7_init_23 : decode yX7_init.2.1 23 = .ok (.newarray .long, 2) := by decide +kernel
theorem dX7_init_25 : decode yX7_init.2.1 25 = .ok (.putfield 18, 3) := by decide +kernel
theorem dX7_init_28 : decode yX7_init.2.1 28 = .ok (.aload_n 0, 1) := by decide +kernel
theorem dX7_init_29 : decode yX7_init.2.1 29 = .ok (.bipush 41, 2) := by decide +kernel
theorem dX7_init_31 : decode yX7_init.2.1 31 = .ok (.newarray .int, 2) := by decide +kernel
theorem dX7_init_33 : decode yX7_init.2.1 33 = .ok (.putfield 22, 3) := by decide +kernel
theorem dX7_init_36 : decode yX7_init.2.1 36 = .ok (.return_, 1) := by decide +kernel
theorem dX7_countWays_0 : decode yX7_countWays.2.1 0 = .ok (.aload_n 0, 1) := by decide +kernel
theorem dX7_countWays_1 : decode yX7_countWays.2.1 1 = .ok (.getfield 18, 3) := by decide +kernel
theorem dX7_countWays_4 : decode yX7_countWays.2.1 4 = .ok (.iconst 0, 1) := by decide +kernel
theorem dX7_countWays_5 : decode yX7_countWays.2.1 5 = .ok (.lconst 1, 1) := by decide +kernel
theorem dX7_countWays_6 : decode yX7_countWays.2.1 6 = .ok (.lastore, 1) := by decide +kernel
theorem dX7_countWays_7 : decode yX7_countWays.2.1 7 = .ok (.iconst 1, 1) := by decide +kernel
theorem dX7_countWays_8 : decode yX7_countWays.2.1 8 = .ok (.istore_n 3, 1) := by decide +kernel
theorem dX7_countWays_9 : decode yX7_countWays.2.1 9 = .ok (.iload_n 3, 1) := by decide +kernel
theorem dX7_countWays_10 : decode yX7_countWays.2.1 10 = .ok (.aload_n 2, 1) := by decide +kernel
theorem dX7_countWays_11 : decode yX7_countWays.2.1 11 = .ok (.getfield 25, 3) := by decide +kernel
theorem dX7_countWays_14 : decode yX7_countWays.2.1 14 = .ok (.if_icmp .gt 16, 3) := by decide +kernel
theorem dX7_countWays_17 : decode yX7_countWays.2.1 17 = .ok (.aload_n 0, 1) := by decide +kernel
theorem dX7_countWays_18 : decode yX7_countWays.2.1 18 = .ok (.getfield 18, 3) := by decide +kernel
theorem dX7_countWays_21 : decode yX7_countWays.2.1 21 = .ok (.iload_n 3, 1) := by decide +kernel
theorem dX7_countWays_22 : decode yX7_countWays.2.1 22 = .ok (.lconst 0, 1) := by decide +kernel
theorem dX7_countWays_23 : decode yX7_countWays.2.1 23 = .ok (.lastore, 1) := by decide +kernel
theorem dX7_countWays_24 : decode yX7_countWays.2.1 24 = .ok (.iinc 3 1, 3) := by decide +kernel
theorem dX7_countWays_27 : decode yX7_countWays.2.1 27 = .ok (.goto (-18), 3) := by decide +kernel
theorem dX7_countWays_30 : decode yX7_countWays.2.1 30 = .ok (.iconst 0, 1) := by decide +kernel
theorem dX7_countWays_31 : decode yX7_countWays.2.1 31 = .ok (.istore_n 3, 1) := by decide +kernel
theorem dX7_countWays_32 : decode yX7_countWays.2.1 32 = .ok (.iload_n 3, 1) := by decide +kernel
theorem dX7_countWays_33 : decode yX7_countWays.2.1 33 = .ok (.aload_n 1, 1) := by decide +kernel
theorem dX7_countWays_34 : decode yX7_countWays.2.1 34 = .ok (.getfield 25, 3) := by decide +kernel
theorem dX7_countWays_37 : decode yX7_countWays.2.1 37 = .ok (.if_icmp .ge 63, 3) := by decide +kernel
theorem dX7_countWays_40 : decode yX7_countWays.2.1 40 = .ok (.aload_n 2, 1) := by decide +kernel
theorem dX7_countWays_41 : decode yX7_countWays.2.1 41 = .ok (.getfield 25, 3) := by decide +kernel
theorem dX7_countWays_44 : decode yX7_countWays.2.1 44 = .ok (.istore 4, 2) := by decide +kernel
theorem dX7_countWays_46 : decode yX7_countWays.2.1 46 = .ok (.iload 4, 2) := by decide +kernel
theorem dX7_countWays_48 : decode yX7_countWays.2.1 48 = .ok (.ifCond .le 46, 3) := by decide +kernel
theorem dX7_countWays_51 : decode yX7_countWays.2.1 51 = .ok (.aload_n 1, 1) := by decide +kernel
theorem dX7_countWays_52 : decode yX7_countWays.2.1 52 = .ok (.getfield 31, 3) := by decide +kernel
theorem dX7_countWays_55 : decode yX7_countWays.2.1 55 = .ok (.iload_n 3, 1) := by decide +kernel
theorem dX7_countWays_56 : decode yX7_countWays.2.1 56 = .ok (.iaload, 1) := by decide +kernel
theorem dX7_countWays_57 : decode yX7_countWays.2.1 57 = .ok (.aload_n 2, 1) := by decide +kernel
theorem dX7_countWays_58 : decode yX7_countWays.2.1 58 = .ok (.getfield 31, 3) := by decide +kernel
theorem dX7_countWays_61 : decode yX7_countWays.2.1 61 = .ok (.iload 4, 2) := by decide +kernel
theorem dX7_countWays_63 : decode yX7_countWays.2.1 63 = .ok (.iconst 1, 1) := by decide +kernel
theorem dX7_countWays_64 : decode yX7_countWays.2.1 64 = .ok (.isub, 1) := by decide +kernel
theorem dX7_countWays_65 : decode yX7_countWays.2.1 65 = .ok (.iaload, 1) := by decide +kernel
theorem dX7_countWays_66 : decode yX7_countWays.2.1 66 = .ok (.if_icmp .ne 22, 3) := by decide +kernel
theorem dX7_countWays_69 : decode yX7_countWays.2.1 69 = .ok (.aload_n 0, 1) := by decide +kernel
theorem dX7_countWays_70 : decode yX7_countWays.2.1 70 = .ok (.getfield 18, 3) := by decide +kernel
theorem dX7_countWays_73 : decode yX7_countWays.2.1 73 = .ok (.iload 4, 2) := by decide +kernel
theorem dX7_countWays_75 : decode yX7_countWays.2.1 75 = .ok (.dup2, 1) := by decide +kernel
theorem dX7_countWays_76 : decode yX7_countWays.2.1 76 = .ok (.laload, 1) := by decide +kernel
theorem dX7_countWays_77 : decode yX7_countWays.2.1 77 = .ok (.aload_n 0, 1) := by decide +kernel
theorem dX7_countWays_78 : decode yX7_countWays.2.1 78 = .ok (.getfield 18, 3) := by decide +kernel
theorem dX7_countWays_81 : decode yX7_countWays.2.1 81 = .ok (.iload 4, 2) := by decide +kernel
theorem dX7_countWays_83 : decode yX7_countWays.2.1 83 = .ok (.iconst 1, 1) := by decide +kernel
theorem dX7_countWays_84 : decode yX7_countWays.2.1 84 = .ok (.isub, 1) := by decide +kernel
theorem dX7_countWays_85 : decode yX7_countWays.2.1 85 = .ok (.laload, 1) := by decide +kernel
theorem dX7_countWays_86 : decode yX7_countWays.2.1 86 = .ok (.ladd, 1) := by decide +kernel
theorem dX7_countWays_87 : decode yX7_countWays.2.1 87 = .ok (.lastore, 1) := by decide +kernel
theorem dX7_countWays_88 : decode yX7_countWays.2.1 88 = .ok (.iinc 4 (-1), 3) := by decide +kernel
theorem dX7_countWays_91 : decode yX7_countWays.2.1 91 = .ok (.goto (-45), 3) := by decide +kernel
theorem dX7_countWays_94 : decode yX7_countWays.2.1 94 = .ok (.iinc 3 1, 3) := by decide +kernel
theorem dX7_countWays_97 : decode yX7_countWays.2.1 97 = .ok (.goto (-65), 3) := by decide +kernel
theorem dX7_countWays_100 : decode yX7_countWays.2.1 100 = .ok (.aload_n 0, 1) := by decide +kernel
theorem dX7_countWays_101 : decode yX7_countWays.2.1 101 = .ok (.getfield 18, 3) := by decide +kernel
theorem dX7_countWays_104 : decode yX7_countWays.2.1 104 = .ok (.aload_n 2, 1) := by decide +kernel
theorem dX7_countWays_105 : decode yX7_countWays.2.1 105 = .ok (.getfield 25, 3) := by decide +kernel
theorem dX7_countWays_108 : decode yX7_countWays.2.1 108 = .ok (.laload, 1) := by decide +kernel
theorem dX7_countWays_109 : decode yX7_countWays.2.1 109 = .ok (.lreturn, 1) := by decide +kernel
theorem dX7_readBounds_0 : decode yX7_readBounds.2.1 0 = .ok (.iconst 0, 1) := by decide +kernel
theorem dX7_readBounds_1 : decode yX7_readBounds.2.1 1 = .ok (.istore_n 3, 1) := by decide +kernel
theorem dX7_readBounds_2 : decode yX7_readBounds.2.1 2 = .ok (.iconst 0, 1) := by decide +kernel
theorem dX7_readBounds_3 : decode yX7_readBounds.2.1 3 = .ok (.istore 4, 2) := by decide +kernel
theorem dX7_readBounds_5 : decode yX7_readBounds.2.1 5 = .ok (.iload 4, 2) := by decide +kernel
theorem dX7_readBounds_7 : decode yX7_readBounds.2.1 7 = .ok (.aload_n 1, 1) := by decide +kernel
theorem dX7_readBounds_8 : decode yX7_readBounds.2.1 8 = .ok (.getfield 25, 3) := by decide +kernel
theorem dX7_readBounds_11 : decode yX7_readBounds.2.1 11 = .ok (.if_icmp .ge 44, 3) := by decide +kernel
theorem dX7_readBounds_14 : decode yX7_readBounds.2.1 14 = .ok (.iload_n 3, 1) := by decide +kernel
theorem dX7_readBounds_15 : decode yX7_readBounds.2.1 15 = .ok (.aload_n 2, 1) := by decide +kernel
theorem dX7_readBounds_16 : decode yX7_readBounds.2.1 16 = .ok (.getfield 25, 3) := by decide +kernel
theorem dX7_readBounds_19 : decode yX7_readBounds.2.1 19 = .ok (.if_icmp .ge 36, 3) := by decide +kernel
theorem dX7_readBounds_22 : decode yX7_readBounds.2.1 22 = .ok (.aload_n 1, 1) := by decide +kernel
theorem dX7_readBounds_23 : decode yX7_readBounds.2.1 23 = .ok (.getfield 31, 3) := by decide +kernel
theorem dX7_readBounds_26 : decode yX7_readBounds.2.1 26 = .ok (.iload 4, 2) := by decide +kernel
theorem dX7_readBounds_28 : decode yX7_readBounds.2.1 28 = .ok (.iaload, 1) := by decide +kernel
theorem dX7_readBounds_29 : decode yX7_readBounds.2.1 29 = .ok (.aload_n 2, 1) := by decide +kernel
theorem dX7_readBounds_30 : decode yX7_readBounds.2.1 30 = .ok (.getfield 31, 3) := by decide +kernel
theorem dX7_readBounds_33 : decode yX7_readBounds.2.1 33 = .ok (.iload_n 3, 1) := by decide +kernel
theorem dX7_readBounds_34 : decode yX7_readBounds.2.1 34 = .ok (.iaload, 1) := by decide +kernel
theorem dX7_readBounds_35 : decode yX7_readBounds.2.1 35 = .ok (.if_icmp .ne 14, 3) := by decide +kernel
theorem dX7_readBounds_38 : decode yX7_readBounds.2.1 38 = .ok (.aload_n 0, 1) := by decide +kernel
theorem dX7_readBounds_39 : decode yX7_readBounds.2.1 39 = .ok (.getfield 9, 3) := by decide +kernel
theorem dX7_readBounds_42 : decode yX7_readBounds.2.1 42 = .ok (.iload_n 3, 1) := by decide +kernel
theorem dX7_readBounds_43 : decode yX7_readBounds.2.1 43 = .ok (.iload 4, 2) := by decide +kernel
theorem dX7_readBounds_45 : decode yX7_readBounds.2.1 45 = .ok (.iastore, 1) := by decide +kernel
theorem dX7_readBounds_46 : decode yX7_readBounds.2.1 46 = .ok (.iinc 3 1, 3) := by decide +kernel
theorem dX7_readBounds_49 : decode yX7_readBounds.2.1 49 = .ok (.iinc 4 1, 3) := by decide +kernel
theorem dX7_readBounds_52 : decode yX7_readBounds.2.1 52 = .ok (.goto (-47), 3) := by decide +kernel
theorem dX7_readBounds_55 : decode yX7_readBounds.2.1 55 = .ok (.iload_n 3, 1) := by decide +kernel
theorem dX7_readBounds_56 : decode yX7_readBounds.2.1 56 = .ok (.aload_n 2, 1) := by decide +kernel
theorem dX7_readBounds_57 : decode yX7_readBounds.2.1 57 = .ok (.getfield 25, 3) := by decide +kernel
theorem dX7_readBounds_60 : decode yX7_readBounds.2.1 60 = .ok (.if_icmp .ge 5, 3) := by decide +kernel
theorem dX7_readBounds_63 : decode yX7_readBounds.2.1 63 = .ok (.iconst 0, 1) := by decide +kernel
theorem dX7_readBounds_64 : decode yX7_readBounds.2.1 64 = .ok (.ireturn, 1) := by decide +kernel
theorem dX7_readBounds_65 : decode yX7_readBounds.2.1 65 = .ok (.aload_n 1, 1) := by decide +kernel
theorem dX7_readBounds_66 : decode yX7_readBounds.2.1 66 = .ok (.getfield 25, 3) := by decide +kernel
theorem dX7_readBounds_69 : decode yX7_readBounds.2.1 69 = .ok (.iconst 1, 1) := by decide +kernel
theorem dX7_readBounds_70 : decode yX7_readBounds.2.1 70 = .ok (.isub, 1) := by decide +kernel
theorem dX7_readBounds_71 : decode yX7_readBounds.2.1 71 = .ok (.istore 4, 2) := by decide +kernel
theorem dX7_readBounds_73 : decode yX7_readBounds.2.1 73 = .ok (.iload 4, 2) := by decide +kernel
theorem dX7_readBounds_75 : decode yX7_readBounds.2.1 75 = .ok (.ifCond .lt 42, 3) := by decide +kernel
theorem dX7_readBounds_78 : decode yX7_readBounds.2.1 78 = .ok (.iload_n 3, 1) := by decide +kernel
theorem dX7_readBounds_79 : decode yX7_readBounds.2.1 79 = .ok (.ifCond .le 38, 3) := by decide +kernel
theorem dX7_readBounds_82 : decode yX7_readBounds.2.1 82 = .ok (.aload_n 1, 1) := by decide +kernel
theorem dX7_readBounds_83 : decode yX7_readBounds.2.1 83 = .ok (.getfield 31, 3) := by decide +kernel
theorem dX7_readBounds_86 : decode yX7_readBounds.2.1 86 = .ok (.iload 4, 2) := by decide +kernel
theorem dX7_readBounds_88 : decode yX7_readBounds.2.1 88 = .ok (.iaload, 1) := by decide +kernel
theorem dX7_readBounds_89 : decode yX7_readBounds.2.1 89 = .ok (.aload_n 2, 1) := by decide +kernel
theorem dX7_readBounds_90 : decode yX7_readBounds.2.1 90 = .ok (.getfield 31, 3) := by decide +kernel
theorem dX7_readBounds_93 : decode yX7_readBounds.2.1 93 = .ok (.iload_n 3, 1) := by decide +kernel
theorem dX7_readBounds_94 : decode yX7_readBounds.2.1 94 = .ok (.iconst 1, 1) := by decide +kernel
theorem dX7_readBounds_95 : decode yX7_readBounds.2.1 95 = .ok (.isub, 1) := by decide +kernel
theorem dX7_readBounds_96 : decode yX7_readBounds.2.1 96 = .ok (.iaload, 1) := by decide +kernel
theorem dX7_readBounds_97 : decode yX7_readBounds.2.1 97 = .ok (.if_icmp .ne 14, 3) := by decide +kernel
theorem dX7_readBounds_100 : decode yX7_readBounds.2.1 100 = .ok (.iinc 3 (-1), 3) := by decide +kernel
theorem dX7_readBounds_103 : decode yX7_readBounds.2.1 103 = .ok (.aload_n 0, 1) := by decide +kernel
theorem dX7_readBounds_104 : decode yX7_readBounds.2.1 104 = .ok (.getfield 15, 3) := by decide +kernel
theorem dX7_readBounds_107 : decode yX7_readBounds.2.1 107 = .ok (.iload_n 3, 1) := by decide +kernel
theorem dX7_readBounds_108 : decode yX7_readBounds.2.1 108 = .ok (.iload 4, 2) := by decide +kernel
theorem dX7_readBounds_110 : decode yX7_readBounds.2.1 110 = .ok (.iastore, 1) := by decide +kernel
theorem dX7_readBounds_111 : decode yX7_readBounds.2.1 111 = .ok (.iinc 4 (-1), 3) := by decide +kernel
theorem dX7_readBounds_114 : decode yX7_readBounds.2.1 114 = .ok (.goto (-41), 3) := by decide +kernel
theorem dX7_readBounds_117 : decode yX7_readBounds.2.1 117 = .ok (.iconst 1, 1) := by decide +kernel
theorem dX7_readBounds_118 : decode yX7_readBounds.2.1 118 = .ok (.ireturn, 1) := by decide +kernel
theorem dX7_someWay_0 : decode yX7_someWay.2.1 0 = .ok (.lconst 0, 1) := by decide +kernel
theorem dX7_someWay_1 : decode yX7_someWay.2.1 1 = .ok (.lstore_n 3, 1) := by decide +kernel
theorem dX7_someWay_2 : decode yX7_someWay.2.1 2 = .ok (.iconst 0, 1) := by decide +kernel
theorem dX7_someWay_3 : decode yX7_someWay.2.1 3 = .ok (.istore 5, 2) := by decide +kernel
theorem dX7_someWay_5 : decode yX7_someWay.2.1 5 = .ok (.iload 5, 2) := by decide +kernel
theorem dX7_someWay_7 : decode yX7_someWay.2.1 7 = .ok (.aload_n 2, 1) := by decide +kernel
theorem dX7_someWay_8 : decode yX7_someWay.2.1 8 = .ok (.getfield 25, 3) := by decide +kernel
theorem dX7_someWay_11 : decode yX7_someWay.2.1 11 = .ok (.if_icmp .ge 60, 3) := by decide +kernel
theorem dX7_someWay_14 : decode yX7_someWay.2.1 14 = .ok (.aload_n 0, 1) := by decide +kernel
theorem dX7_someWay_15 : decode yX7_someWay.2.1 15 = .ok (.getfield 9, 3) := by decide +kernel
theorem dX7_someWay_18 : decode yX7_someWay.2.1 18 = .ok (.iload 5, 2) := by decide +kernel
theorem dX7_someWay_20 : decode yX7_someWay.2.1 20 = .ok (.iaload, 1) := by decide +kernel
theorem dX7_someWay_21 : decode yX7_someWay.2.1 21 = .ok (.istore 6, 2) := by decide +kernel
theorem dX7_someWay_23 : decode yX7_someWay.2.1 23 = .ok (.iload 6, 2) := by decide +kernel
theorem dX7_someWay_25 : decode yX7_someWay.2.1 25 = .ok (.aload_n 0, 1) := by decide +kernel
theorem dX7_someWay_26 : decode yX7_someWay.2.1 26 = .ok (.getfield 15, 3) := by decide +kernel
theorem dX7_someWay_29 : decode yX7_someWay.2.1 29 = .ok (.iload 5, 2) := by decide +kernel
theorem dX7_someWay_31 : decode yX7_someWay.2.1 31 = .ok (.iaload, 1) := by decide +kernel
theorem dX7_someWay_32 : decode yX7_someWay.2.1 32 = .ok (.if_icmp .gt 33, 3) := by decide +kernel
theorem dX7_someWay_35 : decode yX7_someWay.2.1 35 = .ok (.aload_n 1, 1) := by decide +kernel
theorem dX7_someWay_36 : decode yX7_someWay.2.1 36 = .ok (.getfield 31, 3) := by decide +kernel
theorem dX7_someWay_39 : decode yX7_someWay.2.1 39 = .ok (.iload 6, 2) := by decide +kernel
theorem dX7_someWay_41 : decode yX7_someWay.2.1 41 = .ok (.iaload, 1) := by decide +kernel
theorem dX7_someWay_42 : decode yX7_someWay.2.1 42 = .ok (.aload_n 2, 1) := by decide +kernel
theorem dX7_someWay_43 : decode yX7_someWay.2.1 43 = .ok (.getfield 31, 3) := by decide +kernel
theorem dX7_someWay_46 : decode yX7_someWay.2.1 46 = .ok (.iload 5, 2) := by decide +kernel
theorem dX7_someWay_48 : decode yX7_someWay.2.1 48 = .ok (.iaload, 1) := by decide +kernel
theorem dX7_someWay_49 : decode yX7_someWay.2.1 49 = .ok (.if_icmp .ne 10, 3) := by decide +kernel
theorem dX7_someWay_52 : decode yX7_someWay.2.1 52 = .ok (.lload_n 3, 1) := by decide +kernel
theorem dX7_someWay_53 : decode yX7_someWay.2.1 53 = .ok (.lconst 1, 1) := by decide +kernel
theorem dX7_someWay_54 : decode yX7_someWay.2.1 54 = .ok (.iload 6, 2) := by decide +kernel
theorem dX7_someWay_56 : decode yX7_someWay.2.1 56 = .ok (.lshl, 1) := by decide +kernel
theorem dX7_someWay_57 : decode yX7_someWay.2.1 57 = .ok (.lor, 1) := by decide +kernel
theorem dX7_someWay_58 : decode yX7_someWay.2.1 58 = .ok (.lstore_n 3, 1) := by decide +kernel
theorem dX7_someWay_59 : decode yX7_someWay.2.1 59 = .ok (.iinc 6 1, 3) := by decide +kernel
theorem dX7_someWay_62 : decode yX7_someWay.2.1 62 = .ok (.goto (-39), 3) := by decide +kernel
theorem dX7_someWay_65 : decode yX7_someWay.2.1 65 = .ok (.iinc 5 1, 3) := by decide +kernel
theorem dX7_someWay_68 : decode yX7_someWay.2.1 68 = .ok (.goto (-63), 3) := by decide +kernel
theorem dX7_someWay_71 : decode yX7_someWay.2.1 71 = .ok (.lload_n 3, 1) := by decide +kernel
theorem dX7_someWay_72 : decode yX7_someWay.2.1 72 = .ok (.lreturn, 1) := by decide +kernel
theorem dX7_everyWay_0 : decode yX7_everyWay.2.1 0 = .ok (.lconst 0, 1) := by decide +kernel
theorem dX7_everyWay_1 : decode yX7_everyWay.2.1 1 = .ok (.lstore_n 2, 1) := by decide +kernel
theorem dX7_everyWay_2 : decode yX7_everyWay.2.1 2 = .ok (.iconst 0, 1) := by decide +kernel
theorem dX7_everyWay_3 : decode yX7_everyWay.2.1 3 = .ok (.istore 4, 2) := by decide +kernel
theorem dX7_everyWay_5 : decode yX7_everyWay.2.1 5 = .ok (.iload 4, 2) := by decide +kernel
theorem dX7_everyWay_7 : decode yX7_everyWay.2.1 7 = .ok (.iload_n 1, 1) := by decide +kernel
theorem dX7_everyWay_8 : decode yX7_everyWay.2.1 8 = .ok (.if_icmp .ge 38, 3) := by decide +kernel
theorem dX7_everyWay_11 : decode yX7_everyWay.2.1 11 = .ok (.aload_n 0, 1) := by decide +kernel
theorem dX7_everyWay_12 : decode yX7_everyWay.2.1 12 = .ok (.getfield 9, 3) := by decide +kernel
theorem dX7_everyWay_15 : decode yX7_everyWay.2.1 15 = .ok (.iload 4, 2) := by decide +kernel
theorem dX7_everyWay_17 : decode yX7_everyWay.2.1 17 = .ok (.iaload, 1) := by decide +kernel
theorem dX7_everyWay_18 : decode yX7_everyWay.2.1 18 = .ok (.aload_n 0, 1) := by decide +kernel
theorem dX7_everyWay_19 : decode yX7_everyWay.2.1 19 = .ok (.getfield 15, 3) := by decide +kernel
theorem dX7_everyWay_22 : decode yX7_everyWay.2.1 22 = .ok (.iload 4, 2) := by decide +kernel
theorem dX7_everyWay_24 : decode yX7_everyWay.2.1 24 = .ok (.iaload, 1) := by decide +kernel
theorem dX7_everyWay_25 : decode yX7_everyWay.2.1 25 = .ok (.if_icmp .ne 15, 3) := by decide +kernel
theorem dX7_everyWay_28 : decode yX7_everyWay.2.1 28 = .ok (.lload_n 2, 1) := by decide +kernel
theorem dX7_everyWay_29 : decode yX7_everyWay.2.1 29 = .ok (.lconst 1, 1) := by decide +kernel
theorem dX7_everyWay_30 : decode yX7_everyWay.2.1 30 = .ok (.aload_n 0, 1) := by decide +kernel
theorem dX7_everyWay_31 : decode yX7_everyWay.2.1 31 = .ok (.getfield 9, 3) := by decide +kernel
theorem dX7_everyWay_34 : decode yX7_everyWay.2.1 34 = .ok (.iload 4, 2) := by decide +kernel
theorem dX7_everyWay_36 : decode yX7_everyWay.2.1 36 = .ok (.iaload, 1) := by decide +kernel
theorem dX7_everyWay_37 : decode yX7_everyWay.2.1 37 = .ok (.lshl, 1) := by decide +kernel
theorem dX7_everyWay_38 : decode yX7_everyWay.2.1 38 = .ok (.lor, 1) := by decide +kernel
theorem dX7_everyWay_39 : decode yX7_everyWay.2.1 39 = .ok (.lstore_n 2, 1) := by decide +kernel
theorem dX7_everyWay_40 : decode yX7_everyWay.2.1 40 = .ok (.iinc 4 1, 3) := by decide +kernel
theorem dX7_everyWay_43 : decode yX7_everyWay.2.1 43 = .ok (.goto (-38), 3) := by decide +kernel
theorem dX7_everyWay_46 : decode yX7_everyWay.2.1 46 = .ok (.lload_n 2, 1) := by decide +kernel
theorem dX7_everyWay_47 : decode yX7_everyWay.2.1 47 = .ok (.lreturn, 1) := by decide +kernel
theorem dX7_isWay_0 : decode yX7_isWay.2.1 0 = .ok (.aload_n 2, 1) := by decide +kernel
theorem dX7_isWay_1 : decode yX7_isWay.2.1 1 = .ok (.getfield 25, 3) := by decide +kernel
theorem dX7_isWay_4 : decode yX7_isWay.2.1 4 = .ok (.aload_n 1, 1) := by decide +kernel
theorem dX7_isWay_5 : decode yX7_isWay.2.1 5 = .ok (.getfield 25, 3) := by decide +kernel
theorem dX7_isWay_8 : decode yX7_isWay.2.1 8 = .ok (.if_icmp .eq 5, 3) := by decide +kernel
theorem dX7_isWay_11 : decode yX7_isWay.2.1 11 = .ok (.iconst 0, 1) := by decide +kernel
theorem dX7_isWay_12 : decode yX7_isWay.2.1 12 = .ok (.ireturn, 1) := by decide +kernel
theorem dX7_isWay_13 : decode yX7_isWay.2.1 13 = .ok (.iconst (-1), 1) := by decide +kernel
theorem dX7_isWay_14 : decode yX7_isWay.2.1 14 = .ok (.istore_n 3, 1) := by decide +kernel
theorem dX7_isWay_15 : decode yX7_isWay.2.1 15 = .ok (.iconst 0, 1) := by decide +kernel
theorem dX7_isWay_16 : decode yX7_isWay.2.1 16 = .ok (.istore 4, 2) := by decide +kernel
theorem dX7_isWay_18 : decode yX7_isWay.2.1 18 = .ok (.iload 4, 2) := by decide +kernel
theorem dX7_isWay_20 : decode yX7_isWay.2.1 20 = .ok (.aload_n 1, 1) := by decide +kernel
theorem dX7_isWay_21 : decode yX7_isWay.2.1 21 = .ok (.getfield 25, 3) := by decide +kernel
theorem dX7_isWay_24 : decode yX7_isWay.2.1 24 = .ok (.if_icmp .ge 55, 3) := by decide +kernel
theorem dX7_isWay_27 : decode yX7_isWay.2.1 27 = .ok (.aload_n 2, 1) := by decide +kernel
theorem dX7_isWay_28 : decode yX7_isWay.2.1 28 = .ok (.getfield 31, 3) := by decide +kernel
theorem dX7_isWay_31 : decode yX7_isWay.2.1 31 = .ok (.iload 4, 2) := by decide +kernel
theorem dX7_isWay_33 : decode yX7_isWay.2.1 33 = .ok (.iaload, 1) := by decide +kernel
theorem dX7_isWay_34 : decode yX7_isWay.2.1 34 = .ok (.istore 5, 2) := by decide +kernel
theorem dX7_isWay_36 : decode yX7_isWay.2.1 36 = .ok (.iload 5, 2) := by decide +kernel
theorem dX7_isWay_38 : decode yX7_isWay.2.1 38 = .ok (.iload_n 3, 1) := by decide +kernel
theorem dX7_isWay_39 : decode yX7_isWay.2.1 39 = .ok (.if_icmp .le 29, 3) := by decide +kernel
theorem dX7_isWay_42 : decode yX7_isWay.2.1 42 = .ok (.aload_n 0, 1) := by decide +kernel
theorem dX7_isWay_43 : decode yX7_isWay.2.1 43 = .ok (.iload 5, 2) := by decide +kernel
theorem dX7_isWay_45 : decode yX7_isWay.2.1 45 = .ok (.invokevirtual 34, 3) := by decide +kernel
theorem dX7_isWay_48 : decode yX7_isWay.2.1 48 = .ok (.ifCond .eq 20, 3) := by decide +kernel
theorem dX7_isWay_51 : decode yX7_isWay.2.1 51 = .ok (.aload_n 0, 1) := by decide +kernel
theorem dX7_isWay_52 : decode yX7_isWay.2.1 52 = .ok (.getfield 31, 3) := by decide +kernel
theorem dX7_isWay_55 : decode yX7_isWay.2.1 55 = .ok (.iload 5, 2) := by decide +kernel
theorem dX7_isWay_57 : decode yX7_isWay.2.1 57 = .ok (.iaload, 1) := by decide +kernel
theorem dX7_isWay_58 : decode yX7_isWay.2.1 58 = .ok (.aload_n 1, 1) := by decide +kernel
theorem dX7_isWay_59 : decode yX7_isWay.2.1 59 = .ok (.getfield 31, 3) := by decide +kernel
theorem dX7_isWay_62 : decode yX7_isWay.2.1 62 = .ok (.iload 4, 2) := by decide +kernel
theorem dX7_isWay_64 : decode yX7_isWay.2.1 64 = .ok (.iaload, 1) := by decide +kernel
theorem dX7_isWay_65 : decode yX7_isWay.2.1 65 = .ok (.if_icmp .eq 5, 3) := by decide +kernel
theorem dX7_isWay_68 : decode yX7_isWay.2.1 68 = .ok (.iconst 0, 1) := by decide +kernel
theorem dX7_isWay_69 : decode yX7_isWay.2.1 69 = .ok (.ireturn, 1) := by decide +kernel
theorem dX7_isWay_70 : decode yX7_isWay.2.1 70 = .ok (.iload 5, 2) := by decide +kernel
theorem dX7_isWay_72 : decode yX7_isWay.2.1 72 = .ok (.istore_n 3, 1) := by decide +kernel
theorem dX7_isWay_73 : decode yX7_isWay.2.1 73 = .ok (.iinc 4 1, 3) := by decide +kernel
theorem dX7_isWay_76 : decode yX7_isWay.2.1 76 = .ok (.goto (-58), 3) := by decide +kernel
theorem dX7_isWay_79 : decode yX7_isWay.2.1 79 = .ok (.iconst 1, 1) := by decide +kernel
theorem dX7_isWay_80 : decode yX7_isWay.2.1 80 = .ok (.ireturn, 1) := by decide +kernel
theorem dX7_fewestToBar_0 : decode yX7_fewestToBar.2.1 0 = .ok (.aload_n 1, 1) := by decide +kernel
theorem dX7_fewestToBar_1 : decode yX7_fewestToBar.2.1 1 = .ok (.getfield 25, 3) := by decide +kernel
theorem dX7_fewestToBar_4 : decode yX7_fewestToBar.2.1 4 = .ok (.iconst 1, 1) := by decide +kernel
theorem dX7_fewestToBar_5 : decode yX7_fewestToBar.2.1 5 = .ok (.iadd, 1) := by decide +kernel
theorem dX7_fewestToBar_6 : decode yX7_fewestToBar.2.1 6 = .ok (.istore_n 3, 1) := by decide +kernel
theorem dX7_fewestToBar_7 : decode yX7_fewestToBar.2.1 7 = .ok (.aload_n 0, 1) := by decide +kernel
theorem dX7_fewestToBar_8 : decode yX7_fewestToBar.2.1 8 = .ok (.getfield 22, 3) := by decide +kernel
theorem dX7_fewestToBar_11 : decode yX7_fewestToBar.2.1 11 = .ok (.iconst 0, 1) := by decide +kernel
theorem dX7_fewestToBar_12 : decode yX7_fewestToBar.2.1 12 = .ok (.iconst 0, 1) := by decide +kernel
theorem dX7_fewestToBar_13 : decode yX7_fewestToBar.2.1 13 = .ok (.iastore, 1) := by decide +kernel
theorem dX7_fewestToBar_14 : decode yX7_fewestToBar.2.1 14 = .ok (.iconst 1, 1) := by decide +kernel
theorem dX7_fewestToBar_15 : decode yX7_fewestToBar.2.1 15 = .ok (.istore 4, 2) := by decide +kernel
theorem dX7_fewestToBar_17 : decode yX7_fewestToBar.2.1 17 = .ok (.iload 4, 2) := by decide +kernel
theorem dX7_fewestToBar_19 : decode yX7_fewestToBar.2.1 19 = .ok (.aload_n 2, 1) := by decide +kernel
theorem dX7_fewestToBar_20 : decode yX7_fewestToBar.2.1 20 = .ok (.getfield 25, 3) := by decide +kernel
theorem dX7_fewestToBar_23 : decode yX7_fewestToBar.2.1 23 = .ok (.if_icmp .ge 17, 3) := by decide +kernel
theorem dX7_fewestToBar_26 : decode yX7_fewestToBar.2.1 26 = .ok (.aload_n 0, 1) := by decide +kernel
theorem dX7_fewestToBar_27 : decode yX7_fewestToBar.2.1 27 = .ok (.getfield 22, 3) := by decide +kernel
theorem dX7_fewestToBar_30 : decode yX7_fewestToBar.2.1 30 = .ok (.iload 4, 2) := by decide +kernel
theorem dX7_fewestToBar_32 : decode yX7_fewestToBar.2.1 32 = .ok (.iload_n 3, 1) := by decide +kernel
theorem dX7_fewestToBar_33 : decode yX7_fewestToBar.2.1 33 = .ok (.iastore, 1) := by decide +kernel
theorem dX7_fewestToBar_34 : decode yX7_fewestToBar.2.1 34 = .ok (.iinc 4 1, 3) := by decide +kernel
theorem dX7_fewestToBar_37 : decode yX7_fewestToBar.2.1 37 = .ok (.goto (-20), 3) := by decide +kernel
theorem dX7_fewestToBar_40 : decode yX7_fewestToBar.2.1 40 = .ok (.iconst 0, 1) := by decide +kernel
theorem dX7_fewestToBar_41 : decode yX7_fewestToBar.2.1 41 = .ok (.istore 4, 2) := by decide +kernel
theorem dX7_fewestToBar_43 : decode yX7_fewestToBar.2.1 43 = .ok (.iload 4, 2) := by decide +kernel
theorem dX7_fewestToBar_45 : decode yX7_fewestToBar.2.1 45 = .ok (.aload_n 1, 1) := by decide +kernel
theorem dX7_fewestToBar_46 : decode yX7_fewestToBar.2.1 46 = .ok (.getfield 25, 3) := by decide +kernel
theorem dX7_fewestToBar_49 : decode yX7_fewestToBar.2.1 49 = .ok (.if_icmp .ge 84, 3) := by decide +kernel
theorem dX7_fewestToBar_52 : decode yX7_fewestToBar.2.1 52 = .ok (.aload_n 2, 1) := by decide +kernel
theorem dX7_fewestToBar_53 : decode yX7_fewestToBar.2.1 53 = .ok (.getfield 25, 3) := by decide +kernel
theorem dX7_fewestToBar_56 : decode yX7_fewestToBar.2.1 56 = .ok (.iconst 1, 1) := by decide +kernel
theorem dX7_fewestToBar_57 : decode yX7_fewestToBar.2.1 57 = .ok (.isub, 1) := by decide +kernel
theorem dX7_fewestToBar_58 : decode yX7_fewestToBar.2.1 58 = .ok (.istore 5, 2) := by decide +kernel
theorem dX7_fewestToBar_60 : decode yX7_fewestToBar.2.1 60 = .ok (.iload 5, 2) := by decide +kernel
theorem dX7_fewestToBar_62 : decode yX7_fewestToBar.2.1 62 = .ok (.ifCond .lt 65, 3) := by decide +kernel
theorem dX7_fewestToBar_65 : decode yX7_fewestToBar.2.1 65 = .ok (.aload_n 1, 1) := by decide +kernel
theorem dX7_fewestToBar_66 : decode yX7_fewestToBar.2.1 66 = .ok (.getfield 31, 3) := by decide +kernel
theorem dX7_fewestToBar_69 : decode yX7_fewestToBar.2.1 69 = .ok (.iload 4, 2) := by decide +kernel
theorem dX7_fewestToBar_71 : decode yX7_fewestToBar.2.1 71 = .ok (.iaload, 1) := by decide +kernel
theorem dX7_fewestToBar_72 : decode yX7_fewestToBar.2.1 72 = .ok (.aload_n 2, 1) := by decide +kernel
theorem dX7_fewestToBar_73 : decode yX7_fewestToBar.2.1 73 = .ok (.getfield 31, 3) := by decide +kernel
theorem dX7_fewestToBar_76 : decode yX7_fewestToBar.2.1 76 = .ok (.iload 5, 2) := by decide +kernel
theorem dX7_fewestToBar_78 : decode yX7_fewestToBar.2.1 78 = .ok (.iaload, 1) := by decide +kernel
theorem dX7_fewestToBar_79 : decode yX7_fewestToBar.2.1 79 = .ok (.if_icmp .ne 42, 3) := by decide +kernel
theorem dX7_fewestToBar_82 : decode yX7_fewestToBar.2.1 82 = .ok (.aload_n 0, 1) := by decide +kernel
theorem dX7_fewestToBar_83 : decode yX7_fewestToBar.2.1 83 = .ok (.getfield 22, 3) := by decide +kernel
theorem dX7_fewestToBar_86 : decode yX7_fewestToBar.2.1 86 = .ok (.iload 5, 2) := by decide +kernel
theorem dX7_fewestToBar_88 : decode yX7_fewestToBar.2.1 88 = .ok (.iconst 1, 1) := by decide +kernel
theorem dX7_fewestToBar_89 : decode yX7_fewestToBar.2.1 89 = .ok (.iadd, 1) := by decide +kernel
theorem dX7_fewestToBar_90 : decode yX7_fewestToBar.2.1 90 = .ok (.aload_n 0, 1) := by decide +kernel
theorem dX7_fewestToBar_91 : decode yX7_fewestToBar.2.1 91 = .ok (.getfield 22, 3) := by decide +kernel
theorem dX7_fewestToBar_94 : decode yX7_fewestToBar.2.1 94 = .ok (.iload 5, 2) := by decide +kernel
theorem dX7_fewestToBar_96 : decode yX7_fewestToBar.2.1 96 = .ok (.iconst 1, 1) := by decide +kernel
theorem dX7_fewestToBar_97 : decode yX7_fewestToBar.2.1 97 = .ok (.iadd, 1) := by decide +kernel
theorem dX7_fewestToBar_98 : decode yX7_fewestToBar.2.1 98 = .ok (.iaload, 1) := by decide +kernel
theorem dX7_fewestToBar_99 : decode yX7_fewestToBar.2.1 99 = .ok (.aload_n 0, 1) := by decide +kernel
theorem dX7_fewestToBar_100 : decode yX7_fewestToBar.2.1 100 = .ok (.getfield 22, 3) := by decide +kernel
theorem dX7_fewestToBar_103 : decode yX7_fewestToBar.2.1 103 = .ok (.iload 5, 2) := by decide +kernel
theorem dX7_fewestToBar_105 : decode yX7_fewestToBar.2.1 105 = .ok (.iaload, 1) := by decide +kernel
theorem dX7_fewestToBar_106 : decode yX7_fewestToBar.2.1 106 = .ok (.invokestatic 38, 3) := by decide +kernel
theorem dX7_fewestToBar_109 : decode yX7_fewestToBar.2.1 109 = .ok (.iastore, 1) := by decide +kernel
theorem dX7_fewestToBar_110 : decode yX7_fewestToBar.2.1 110 = .ok (.aload_n 0, 1) := by decide +kernel
theorem dX7_fewestToBar_111 : decode yX7_fewestToBar.2.1 111 = .ok (.getfield 22, 3) := by decide +kernel
theorem dX7_fewestToBar_114 : decode yX7_fewestToBar.2.1 114 = .ok (.iload 5, 2) := by decide +kernel
theorem dX7_fewestToBar_116 : decode yX7_fewestToBar.2.1 116 = .ok (.dup2, 1) := by decide +kernel
theorem dX7_fewestToBar_117 : decode yX7_fewestToBar.2.1 117 = .ok (.iaload, 1) := by decide +kernel
theorem dX7_fewestToBar_118 : decode yX7_fewestToBar.2.1 118 = .ok (.iconst 1, 1) := by decide +kernel
theorem dX7_fewestToBar_119 : decode yX7_fewestToBar.2.1 119 = .ok (.iadd, 1) := by decide +kernel
theorem dX7_fewestToBar_120 : decode yX7_fewestToBar.2.1 120 = .ok (.iastore, 1) := by decide +kernel
theorem dX7_fewestToBar_121 : decode yX7_fewestToBar.2.1 121 = .ok (.iinc 5 (-1), 3) := by decide +kernel
theorem dX7_fewestToBar_124 : decode yX7_fewestToBar.2.1 124 = .ok (.goto (-64), 3) := by decide +kernel
theorem dX7_fewestToBar_127 : decode yX7_fewestToBar.2.1 127 = .ok (.iinc 4 1, 3) := by decide +kernel
theorem dX7_fewestToBar_130 : decode yX7_fewestToBar.2.1 130 = .ok (.goto (-87), 3) := by decide +kernel
theorem dX7_fewestToBar_133 : decode yX7_fewestToBar.2.1 133 = .ok (.iload_n 3, 1) := by decide +kernel
theorem dX7_fewestToBar_134 : decode yX7_fewestToBar.2.1 134 = .ok (.istore 4, 2) := by decide +kernel
theorem dX7_fewestToBar_136 : decode yX7_fewestToBar.2.1 136 = .ok (.iconst 0, 1) := by decide +kernel
theorem dX7_fewestToBar_137 : decode yX7_fewestToBar.2.1 137 = .ok (.istore 5, 2) := by decide +kernel
theorem dX7_fewestToBar_139 : decode yX7_fewestToBar.2.1 139 = .ok (.iload 5, 2) := by decide +kernel
theorem dX7_fewestToBar_141 : decode yX7_fewestToBar.2.1 141 = .ok (.aload_n 2, 1) := by decide +kernel
theorem dX7_fewestToBar_142 : decode yX7_fewestToBar.2.1 142 = .ok (.getfield 25, 3) := by decide +kernel
theorem dX7_fewestToBar_145 : decode yX7_fewestToBar.2.1 145 = .ok (.if_icmp .ge 23, 3) := by decide +kernel
theorem dX7_fewestToBar_148 : decode yX7_fewestToBar.2.1 148 = .ok (.iload 4, 2) := by decide +kernel
theorem dX7_fewestToBar_150 : decode yX7_fewestToBar.2.1 150 = .ok (.aload_n 0, 1) := by decide +kernel
theorem dX7_fewestToBar_151 : decode yX7_fewestToBar.2.1 151 = .ok (.getfield 22, 3) := by decide +kernel
theorem dX7_fewestToBar_154 : decode yX7_fewestToBar.2.1 154 = .ok (.iload 5, 2) := by decide +kernel
theorem dX7_fewestToBar_156 : decode yX7_fewestToBar.2.1 156 = .ok (.iaload, 1) := by decide +kernel
theorem dX7_fewestToBar_157 : decode yX7_fewestToBar.2.1 157 = .ok (.invokestatic 38, 3) := by decide +kernel
theorem dX7_fewestToBar_160 : decode yX7_fewestToBar.2.1 160 = .ok (.istore 4, 2) := by decide +kernel
theorem dX7_fewestToBar_162 : decode yX7_fewestToBar.2.1 162 = .ok (.iinc 5 1, 3) := by decide +kernel
theorem dX7_fewestToBar_165 : decode yX7_fewestToBar.2.1 165 = .ok (.goto (-26), 3) := by decide +kernel
theorem dX7_fewestToBar_168 : decode yX7_fewestToBar.2.1 168 = .ok (.iload 4, 2) := by decide +kernel
theorem dX7_fewestToBar_170 : decode yX7_fewestToBar.2.1 170 = .ok (.ireturn, 1) := by decide +kernel
theorem dX8_init_0 : decode yX8_init.2.1 0 = .ok (.aload_n 0, 1) := by decide +kernel
theorem dX8_init_1 : decode yX8_init.2.1 1 = .ok (.invokespecial 3, 3) := by decide +kernel
theorem dX8_init_4 : decode yX8_init.2.1 4 = .ok (.aload_n 0, 1) := by decide +kernel
theorem dX8_init_5 : decode yX8_init.2.1 5 = .ok (.sipush 246, 3) := by decide +kernel
theorem dX8_init_8 : decode yX8_init.2.1 8 = .ok (.newarray .int, 2) := by decide +kernel
theorem dX8_init_10 : decode yX8_init.2.1 10 = .ok (.putfield 9, 3) := by decide +kernel
theorem dX8_init_13 : decode yX8_init.2.1 13 = .ok (.return_, 1) := by decide +kernel
theorem dX8_read_0 : decode yX8_read.2.1 0 = .ok (.aload_n 1, 1) := by decide +kernel
theorem dX8_read_1 : decode yX8_read.2.1 1 = .ok (.getfield 15, 3) := by decide +kernel
theorem dX8_read_4 : decode yX8_read.2.1 4 = .ok (.bipush 6, 2) := by decide +kernel
theorem dX8_read_6 : decode yX8_read.2.1 6 = .ok (.imul, 1) := by decide +kernel
theorem dX8_read_7 : decode yX8_read.2.1 7 = .ok (.istore_n 2, 1) := by decide +kernel
theorem dX8_read_8 : decode yX8_read.2.1 8 = .ok (.iconst 0, 1) := by decide +kernel
theorem dX8_read_9 : decode yX8_read.2.1 9 = .ok (.istore_n 3, 1) := by decide +kernel
theorem dX8_read_10 : decode yX8_read.2.1 10 = .ok (.iload_n 3, 1) := by decide +kernel
theorem dX8_read_11 : decode yX8_read.2.1 11 = .ok (.bipush 6, 2) := by decide +kernel
theorem dX8_read_13 : decode yX8_read.2.1 13 = .ok (.if_icmp .ge 18, 3) := by decide +kernel
theorem dX8_read_16 : decode yX8_read.2.1 16 = .ok (.aload_n 0, 1) := by decide +kernel
theorem dX8_read_17 : decode yX8_read.2.1 17 = .ok (.getfield 9, 3) := by decide +kernel
theorem dX8_read_20 : decode yX8_read.2.1 20 = .ok (.iload_n 2, 1) := by decide +kernel
theorem dX8_read_21 : decode yX8_read.2.1 21 = .ok (.iload_n 3, 1) := by decide +kernel
theorem dX8_read_22 : decode yX8_read.2.1 22 = .ok (.iadd, 1) := by decide +kernel
theorem dX8_read_23 : decode yX8_read.2.1 23 = .ok (.iconst 0, 1) := by decide +kernel
theorem dX8_read_24 : decode yX8_read.2.1 24 = .ok (.iastore, 1) := by decide +kernel
theorem dX8_read_25 : decode yX8_read.2.1 25 = .ok (.iinc 3 1, 3) := by decide +kernel
theorem dX8_read_28 : decode yX8_read.2.1 28 = .ok (.goto (-18), 3) := by decide +kernel
theorem dX8_read_31 : decode yX8_read.2.1 31 = .ok (.aload_n 1, 1) := by decide +kernel
theorem dX8_read_32 : decode yX8_read.2.1 32 = .ok (.getfield 15, 3) := by decide +kernel
theorem dX8_read_35 : decode yX8_read.2.1 35 = .ok (.iconst 1, 1) := by decide +kernel
theorem dX8_read_36 : decode yX8_read.2.1 36 = .ok (.isub, 1) := by decide +kernel
theorem dX8_read_37 : decode yX8_read.2.1 37 = .ok (.istore_n 3, 1) := by decide +kernel
theorem dX8_read_38 : decode yX8_read.2.1 38 = .ok (.iload_n 3, 1) := by decide +kernel
theorem dX8_read_39 : decode yX8_read.2.1 39 = .ok (.ifCond .lt 52, 3) := by decide +kernel
theorem dX8_read_42 : decode yX8_read.2.1 42 = .ok (.iload_n 3, 1) := by decide +kernel
theorem dX8_read_43 : decode yX8_read.2.1 43 = .ok (.bipush 6, 2) := by decide +kernel
theorem dX8_read_45 : decode yX8_read.2.1 45 = .ok (.imul, 1) := by decide +kernel
theorem dX8_read_46 : decode yX8_read.2.1 46 = .ok (.istore 4, 2) := by decide +kernel
theorem dX8_read_48 : decode yX8_read.2.1 48 = .ok (.aload_n 0, 1) := by decide +kernel
theorem dX8_read_49 : decode yX8_read.2.1 49 = .ok (.getfield 9, 3) := by decide +kernel
theorem dX8_read_52 : decode yX8_read.2.1 52 = .ok (.iload 4, 2) := by decide +kernel
theorem dX8_read_54 : decode yX8_read.2.1 54 = .ok (.bipush 6, 2) := by decide +kernel
theorem dX8_read_56 : decode yX8_read.2.1 56 = .ok (.iadd, 1) := by decide +kernel
theorem dX8_read_57 : decode yX8_read.2.1 57 = .ok (.aload_n 0, 1) := by decide +kernel
theorem dX8_read_58 : decode yX8_read.2.1 58 = .ok (.getfield 9, 3) := by decide +kernel
theorem dX8_read_61 : decode yX8_read.2.1 61 = .ok (.iload 4, 2) := by decide +kernel
theorem dX8_read_63 : decode yX8_read.2.1 63 = .ok (.bipush 6, 2) := by decide +kernel
theorem dX8_read_65 : decode yX8_read.2.1 65 = .ok (.invokestatic 21, 3) := by decide +kernel
theorem dX8_read_68 : decode yX8_read.2.1 68 = .ok (.aload_n 0, 1) := by decide +kernel
theorem dX8_read_69 : decode yX8_read.2.1 69 = .ok (.getfield 9, 3) := by decide +kernel
theorem dX8_read_72 : decode yX8_read.2.1 72 = .ok (.iload 4, 2) := by decide +kernel
theorem dX8_read_74 : decode yX8_read.2.1 74 = .ok (.aload_n 1, 1) := by decide +kernel
theorem dX8_read_75 : decode yX8_read.2.1 75 = .ok (.getfield 27, 3) := by decide +kernel
theorem dX8_read_78 : decode yX8_read.2.1 78 = .ok (.iload_n 3, 1) := by decide +kernel
theorem dX8_read_79 : decode yX8_read.2.1 79 = .ok (.iaload, 1) := by decide +kernel
theorem dX8_read_80 : decode yX8_read.2.1 80 = .ok (.iadd, 1) := by decide +kernel
theorem dX8_read_81 : decode yX8_read.2.1 81 = .ok (.iload_n 3, 1) := by decide +kernel
theorem dX8_read_82 : decode yX8_read.2.1 82 = .ok (.iconst 1, 1) := by decide +kernel
theorem dX8_read_83 : decode yX8_read.2.1 83 = .ok (.iadd, 1) := by decide +kernel
theorem dX8_read_84 : decode yX8_read.2.1 84 = .ok (.iastore, 1) := by decide +kernel
theorem dX8_read_85 : decode yX8_read.2.1 85 = .ok (.iinc 3 (-1), 3) := by decide +kernel
theorem dX8_read_88 : decode yX8_read.2.1 88 = .ok (.goto (-50), 3) := by decide +kernel
theorem dX8_read_91 : decode yX8_read.2.1 91 = .ok (.return_, 1) := by decide +kernel
theorem dX8_behind_0 : decode yX8_behind.2.1 0 = .ok (.aload_n 0, 1) := by decide +kernel
theorem dX8_behind_1 : decode yX8_behind.2.1 1 = .ok (.getfield 9, 3) := by decide +kernel
theorem dX8_behind_4 : decode yX8_behind.2.1 4 = .ok (.iload_n 1, 1) := by decide +kernel
theorem dX8_behind_5 : decode yX8_behind.2.1 5 = .ok (.bipush 6, 2) := by decide +kernel
theorem dX8_behind_7 : decode yX8_behind.2.1 7 = .ok (.imul, 1) := by decide +kernel
theorem dX8_behind_8 : decode yX8_behind.2.1 8 = .ok (.iload_n 2, 1) := by decide +kernel
theorem dX8_behind_9 : decode yX8_behind.2.1 9 = .ok (.iadd, 1) := by decide +kernel
theorem dX8_behind_10 : decode yX8_behind.2.1 10 = .ok (.iaload, 1) := by decide +kernel
theorem dX8_behind_11 : decode yX8_behind.2.1 11 = .ok (.ireturn, 1) := by decide +kernel
theorem dX9_init_0 : decode yX9_init.2.1 0 = .ok (.aload_n 0, 1) := by decide +kernel
theorem dX9_init_1 : decode yX9_init.2.1 1 = .ok (.invokespecial 3, 3) := by decide +kernel
theorem dX9_init_4 : decode yX9_init.2.1 4 = .ok (.aload_n 0, 1) := by decide +kernel
theorem dX9_init_5 : decode yX9_init.2.1 5 = .ok (.bipush 40, 2) := by decide +kernel
theorem dX9_init_7 : decode yX9_init.2.1 7 = .ok (.newarray .int, 2) := by decide +kernel
theorem dX9_init_9 : decode yX9_init.2.1 9 = .ok (.putfield 9, 3) := by decide +kernel
theorem dX9_init_12 : decode yX9_init.2.1 12 = .ok (.aload_n 0, 1) := by decide +kernel
theorem dX9_init_13 : decode yX9_init.2.1 13 = .ok (.bipush 40, 2) := by decide +kernel
theorem dX9_init_15 : decode yX9_init.2.1 15 = .ok (.newarray .int, 2) := by decide +kernel
theorem dX9_init_17 : decode yX9_init.2.1 17 = .ok (.putfield 15, 3) := by decide +kernel
theorem dX9_init_20 : decode yX9_init.2.1 20 = .ok (.aload_n 0, 1) := by decide +kernel
theorem dX9_init_21 : decode yX9_init.2.1 21 = .ok (.bipush 6, 2) := by decide +kernel
theorem dX9_init_23 : decode yX9_init.2.1 23 = .ok (.newarray .int, 2) := by decide +kernel
theorem dX9_init_25 : decode yX9_init.2.1 25 = .ok (.putfield 18, 3) := by decide +kernel
theorem dX9_init_28 : decode yX9_init.2.1 28 = .ok (.aload_n 0, 1) := by decide +kernel
theorem dX9_init_29 : decode yX9_init.2.1 29 = .ok (.bipush 36, 2) := by decide +kernel
theorem dX9_init_31 : decode yX9_init.2.1 31 = .ok (.newarray .int, 2) := by decide +kernel
theorem dX9_init_33 : decode yX9_init.2.1 33 = .ok (.putfield 21, 3) := by decide +kernel
theorem dX9_init_36 : decode yX9_init.2.1 36 = .ok (.aload_n 0, 1) := by decide +kernel
theorem dX9_init_37 : decode yX9_init.2.1 37 = .ok (.sipush 216, 3) := by decide +kernel
theorem dX9_init_40 : decode yX9_init.2.1 40 = .ok (.newarray .int, 2) := by decide +kernel
theorem dX9_init_42 : decode yX9_init.2.1 42 = .ok (.putfield 24, 3) := by decide +kernel
theorem dX9_init_45 : decode yX9_init.2.1 45 = .ok (.aload_n 0, 1) := by decide +kernel
theorem dX9_init_46 : decode yX9_init.2.1 46 = .ok (.sipush 216, 3) := by decide +kernel
theorem dX9_init_49 : decode yX9_init.2.1 49 = .ok (.newarray .int, 2) := by decide +kernel
theorem dX9_init_51 : decode yX9_init.2.1 51 = .ok (.putfield 27, 3) := by decide +kernel
theorem dX9_init_54 : decode yX9_init.2.1 54 = .ok (.return_, 1) := by decide +kernel
theorem dX9_search_0 : decode yX9_search.2.1 0 = .ok (.aload_n 0, 1) := by decide +kernel
theorem dX9_search_1 : decode yX9_search.2.1 1 = .ok (.iload_n 2, 1) := by decide +kernel
theorem dX9_search_2 : decode yX9_search.2.1 2 = .ok (.putfield 30, 3) := by decide +kernel
theorem dX9_search_5 : decode yX9_search.2.1 5 = .ok (.aload_n 0, 1) := by decide +kernel
theorem dX9_search_6 : decode yX9_search.2.1 6 = .ok (.aload_n 1, 1) := by decide +kernel
theorem dX9_search_7 : decode yX9_search.2.1 7 = .ok (.getfield 34, 3) := by decide +kernel
theorem dX9_search_10 : decode yX9_search.2.1 10 = .ok (.putfield 39, 3) := by decide +kernel
theorem dX9_search_13 : decode yX9_search.2.1 13 = .ok (.aload_n 0, 1) := by decide +kernel
theorem dX9_search_14 : decode yX9_search.2.1 14 = .ok (.iload_n 3, 1) := by decide +kernel
theorem dX9_search_15 : decode yX9_search.2.1 15 = .ok (.putfield 42, 3) := by decide +kernel
theorem dX9_search_18 : decode yX9_search.2.1 18 = .ok (.aload_n 0, 1) := by decide +kernel
theorem dX9_search_19 : decode yX9_search.2.1 19 = .ok (.iconst 0, 1) := by decide +kernel
theorem dX9_search_20 : decode yX9_search.2.1 20 = .ok (.putfield 45, 3) := by decide +kernel
theorem dX9_search_23 : decode yX9_search.2.1 23 = .ok (.iconst 0, 1) := by decide +kernel
theorem dX9_search_24 : decode yX9_search.2.1 24 = .ok (.istore 4, 2) := by decide +kernel
theorem dX9_search_26 : decode yX9_search.2.1 26 = .ok (.iload 4, 2) := by decide +kernel
theorem dX9_search_28 : decode yX9_search.2.1 28 = .ok (.aload_n 1, 1) := by decide +kernel
theorem dX9_search_29 : decode yX9_search.2.1 29 = .ok (.getfield 34, 3) := by decide +kernel
theorem dX9_search_32 : decode yX9_search.2.1 32 = .ok (.if_icmp .ge 20, 3) := by decide +kernel
theorem dX9_search_35 : decode yX9_search.2.1 35 = .ok (.aload_n 0, 1) := by decide +kernel
theorem dX9_search_36 : decode yX9_search.2.1 36 = .ok (.aload_n 1, 1) := by decide +kernel
theorem dX9_search_37 : decode yX9_search.2.1 37 = .ok (.getfield 48, 3) := by decide +kernel
theorem dX9_search_40 : decode yX9_search.2.1 40 = .ok (.iload 4, 2) := by decide +kernel
theorem dX9_search_42 : decode yX9_search.2.1 42 = .ok (.iaload, 1) := by decide +kernel
theorem dX9_search_43 : decode yX9_search.2.1 43 = .ok (.invokevirtual 51, 3) := by decide +kernel
theorem dX9_search_46 : decode yX9_search.2.1 46 = .ok (.iinc 4 1, 3) := by decide +kernel
theorem dX9_search_49 : decode yX9_search.2.1 49 = .ok (.goto (-23), 3) := by decide +kernel
theorem dX9_search_52 : decode yX9_search.2.1 52 = .ok (.aload_n 0, 1) := by decide +kernel
theorem dX9_search_53 : decode yX9_search.2.1 53 = .ok (.invokevirtual 55, 3) := by decide +kernel
theorem dX9_search_56 : decode yX9_search.2.1 56 = .ok (.astore 4, 2) := by decide +kernel
theorem dX9_search_58 : decode yX9_search.2.1 58 = .ok (.aload 4, 2) := by decide +kernel
theorem dX9_search_60 : decode yX9_search.2.1 60 = .ok (.iconst 0, 1) := by decide +kernel
theorem dX9_search_61 : decode yX9_search.2.1 61 = .ok (.aload_n 0, 1) := by decide +kernel
theorem dX9_search_62 : decode yX9_search.2.1 62 = .ok (.getfield 27, 3) := by decide +kernel
theorem dX9_search_65 : decode yX9_search.2.1 65 = .ok (.iconst 0, 1) := by decide +kernel
theorem dX9_search_66 : decode yX9_search.2.1 66 = .ok (.aload 4, 2) := by decide +kernel
theorem dX9_search_68 : decode yX9_search.2.1 68 = .ok (.arraylength, 1) := by decide +kernel
theorem dX9_search_69 : decode yX9_search.2.1 69 = .ok (.invokestatic 59, 3) := by decide +kernel
theorem dX9_search_72 : decode yX9_search.2.1 72 = .ok (.aload_n 1, 1) := by decide +kernel
theorem dX9_search_73 : decode yX9_search.2.1 73 = .ok (.getfield 34, 3) := by decide +kernel
theorem dX9_search_76 : decode yX9_search.2.1 76 = .ok (.iconst 1, 1) := by decide +kernel
theorem dX9_search_77 : decode yX9_search.2.1 77 = .ok (.isub, 1) := by decide +kernel
theorem dX9_search_78 : decode yX9_search.2.1 78 = .ok (.istore 5, 2) := by decide +kernel
theorem dX9_search_80 : decode yX9_search.2.1 80 = .ok (.iload 5, 2) := by decide +kernel
theorem dX9_search_82 : decode yX9_search.2.1 82 = .ok (.ifCond .lt 20, 3) := by decide +kernel
theorem dX9_search_85 : decode yX9_search.2.1 85 = .ok (.aload_n 0, 1) := by decide +kernel
theorem dX9_search_86 : decode yX9_search.2.1 86 = .ok (.aload_n 1, 1) := by decide +kernel
theorem dX9_search_87 : decode yX9_search.2.1 87 = .ok (.getfield 48, 3) := by decide +kernel
theorem dX9_search_90 : decode yX9_search.2.1 90 = .ok (.iload 5, 2) := by decide +kernel
theorem dX9_search_92 : decode yX9_search.2.1 92 = .ok (.iaload, 1) := by decide +kernel
theorem dX9_search_93 : decode yX9_search.2.1 93 = .ok (.invokevirtual 65, 3) := by decide +kernel
theorem dX9_search_96 : decode yX9_search.2.1 96 = .ok (.iinc 5 (-1), 3) := by decide +kernel
theorem dX9_search_99 : decode yX9_search.2.1 99 = .ok (.goto (-19), 3) := by decide +kernel
theorem dX9_search_102 : decode yX9_search.2.1 102 = .ok (.aload_n 0, 1) := by decide +kernel
theorem dX9_search_103 : decode yX9_search.2.1 103 = .ok (.iconst 0, 1) := by decide +kernel
theorem dX9_search_104 : decode yX9_search.2.1 104 = .ok (.invokevirtual 68, 3) := by decide +kernel
theorem dX9_search_107 : decode yX9_search.2.1 107 = .ok (.aload_n 0, 1) := by decide +kernel
theorem dX9_search_108 : decode yX9_search.2.1 108 = .ok (.getfield 45, 3) := by decide +kernel
theorem dX9_search_111 : decode yX9_search.2.1 111 = .ok (.ireturn, 1) := by decide +kernel
theorem dX9_countsOfDepth_0 : decode yX9_countsOfDepth.2.1 0 = .ok (.aload_n 0, 1) := by decide +kernel
theorem dX9_countsOfDepth_1 : decode yX9_countsOfDepth.2.1 1 = .ok (.getfield 42, 3) := by decide +kernel
theorem dX9_countsOfDepth_4 : decode yX9_countsOfDepth.2.1 4 = .ok (.iconst 1, 1) := by decide +kernel
theorem dX9_countsOfDepth_5 : decode yX9_countsOfDepth.2.1 5 = .ok (.if_icmp .ne 8, 3) := by decide +kernel
theorem dX9_countsOfDepth_8 : decode yX9_countsOfDepth.2.1 8 = .ok (.aload_n 0, 1) := by decide +kernel
theorem dX9_countsOfDepth_9 : decode yX9_countsOfDepth.2.1 9 = .ok (.getfield 18, 3) := by decide +kernel
theorem dX9_countsOfDepth_12 : decode yX9_countsOfDepth.2.1 12 = .ok (.areturn, 1) := by decide +kernel
theorem dX9_countsOfDepth_13 : decode yX9_countsOfDepth.2.1 13 = .ok (.aload_n 0, 1) := by decide +kernel
theorem dX9_countsOfDepth_14 : decode yX9_countsOfDepth.2.1 14 = .ok (.getfield 42, 3) := by decide +kernel
theorem dX9_countsOfDepth_17 : decode yX9_countsOfDepth.2.1 17 = .ok (.iconst 2, 1) := by decide +kernel
theorem dX9_countsOfDepth_18 : decode yX9_countsOfDepth.2.1 18 = .ok (.if_icmp .ne 10, 3) := by decide +kernel
theorem dX9_countsOfDepth_21 : decode yX9_countsOfDepth.2.1 21 = .ok (.aload_n 0, 1) := by decide +kernel
theorem dX9_countsOfDepth_22 : decode yX9_countsOfDepth.2.1 22 = .ok (.getfield 21, 3) := by decide +kernel
theorem dX9_countsOfDepth_25 : decode yX9_countsOfDepth.2.1 25 = .ok (.goto 7, 3) := by decide +kernel
theorem dX9_countsOfDepth_28 : decode yX9_countsOfDepth.2.1 28 = .ok (.aload_n 0, 1) := by decide +kernel
theorem dX9_countsOfDepth_29 : decode yX9_countsOfDepth.2.1 29 = .ok (.getfield 24, 3) := by decide +kernel
theorem dX9_countsOfDepth_32 : decode yX9_countsOfDepth.2.1 32 = .ok (.areturn, 1) := by decide +kernel
theorem dX9_grow_0 : decode yX9_grow.2.1 0 = .ok (.iload_n 1, 1) := by decide +kernel
theorem dX9_grow_1 : decode yX9_grow.2.1 1 = .ok (.aload_n 0, 1) := by decide +kernel
theorem dX9_grow_2 : decode yX9_grow.2.1 2 = .ok (.getfield 39, 3) := by decide +kernel
theorem dX9_grow_5 : decode yX9_grow.2.1 5 = .ok (.if_icmp .lt 8, 3) := by decide +kernel
theorem dX9_grow_8 : decode yX9_grow.2.1 8 = .ok (.aload_n 0, 1) := by decide +kernel
theorem dX9_grow_9 : decode yX9_grow.2.1 9 = .ok (.invokevirtual 71, 3) := by decide +kernel
theorem dX9_grow_12 : decode yX9_grow.2.1 12 = .ok (.return_, 1) := by decide +kernel
theorem dX9_grow_13 : decode yX9_grow.2.1 13 = .ok (.iconst 0, 1) := by decide +kernel
theorem dX9_grow_14 : decode yX9_grow.2.1 14 = .ok (.istore_n 2, 1) := by decide +kernel
theorem dX9_grow_15 : decode yX9_grow.2.1 15 = .ok (.iload_n 2, 1) := by decide +kernel
theorem dX9_grow_16 : decode yX9_grow.2.1 16 = .ok (.aload_n 0, 1) := by decide +kernel
theorem dX9_grow_17 : decode yX9_grow.2.1 17 = .ok (.getfield 30, 3) := by decide +kernel
theorem dX9_grow_20 : decode yX9_grow.2.1 20 = .ok (.if_icmp .ge 41, 3) := by decide +kernel
theorem dX9_grow_23 : decode yX9_grow.2.1 23 = .ok (.aload_n 0, 1) := by decide +kernel
theorem dX9_grow_24 : decode yX9_grow.2.1 24 = .ok (.getfield 15, 3) := by decide +kernel
theorem dX9_grow_27 : decode yX9_grow.2.1 27 = .ok (.iload_n 1, 1) := by decide +kernel
theorem dX9_grow_28 : decode yX9_grow.2.1 28 = .ok (.iload_n 2, 1) := by decide +kernel
theorem dX9_grow_29 : decode yX9_grow.2.1 29 = .ok (.iastore, 1) := by decide +kernel
theorem dX9_grow_30 : decode yX9_grow.2.1 30 = .ok (.aload_n 0, 1) := by decide +kernel
theorem dX9_grow_31 : decode yX9_grow.2.1 31 = .ok (.iload_n 2, 1) := by decide +kernel
theorem dX9_grow_32 : decode yX9_grow.2.1 32 = .ok (.invokevirtual 51, 3) := by decide +kernel
theorem dX9_grow_35 : decode yX9_grow.2.1 35 = .ok (.aload_n 0, 1) := by decide +kernel
theorem dX9_grow_36 : decode yX9_grow.2.1 36 = .ok (.iload_n 2, 1) := by decide +kernel
theorem dX9_grow_37 : decode yX9_grow.2.1 37 = .ok (.invokevirtual 74, 3) := by decide +kernel
theorem dX9_grow_40 : decode yX9_grow.2.1 40 = .ok (.ifCond .ne 10, 3) := by decide +kernel
theorem dX9_grow_43 : decode yX9_grow.2.1 43 = .ok (.aload_n 0, 1) := by decide +kernel
theorem dX9_grow_44 : decode yX9_grow.2.1 44 = .ok (.iload_n 1, 1) := by decide +kernel
theorem dX9_grow_45 : decode yX9_grow.2.1 45 = .ok (.iconst 1, 1) := by decide +kernel
theorem dX9_grow_46 : decode yX9_grow.2.1 46 = .ok (.iadd, 1) := by decide +kernel
theorem dX9_grow_47 : decode yX9_grow.2.1 47 = .ok (.invokevirtual 68, 3) := by decide +kernel
theorem dX9_grow_50 : decode yX9_grow.2.1 50 = .ok (.aload_n 0, 1) := by decide +kernel
theorem dX9_grow_51 : decode yX9_grow.2.1 51 = .ok (.iload_n 2, 1) := by decide +kernel
theorem dX9_grow_52 : decode yX9_grow.2.1 52 = .ok (.invokevirtual 65, 3) := by decide +kernel
theorem dX9_grow_55 : decode yX9_grow.2.1 55 = .ok (.iinc 2 1, 3) := by decide +kernel
theorem dX9_grow_58 : decode yX9_grow.2.1 58 = .ok (.goto (-43), 3) := by decide +kernel
theorem dX9_grow_61 : decode yX9_grow.2.1 61 = .ok (.return_, 1) := by decide +kernel
theorem dX9_keepTwin_0 : decode yX9_keepTwin.2.1 0 = .ok (.aload_n 0, 1) := by decide +kernel
theorem dX9_keepTwin_1 : decode yX9_keepTwin.2.1 1 = .ok (.getfield 45, 3) := by decide +kernel
theorem dX9_keepTwin_4 : decode yX9_keepTwin.2.1 4 = .ok (.ifCond .ne 20, 3) := by decide +kernel
theorem dX9_keepTwin_7 : decode yX9_keepTwin.2.1 7 = .ok (.aload_n 0, 1) := by decide +kernel
theorem dX9_keepTwin_8 : decode yX9_keepTwin.2.1 8 = .ok (.getfield 15, 3) := by decide +kernel
theorem dX9_keepTwin_11 : decode yX9_keepTwin.2.1 11 = .ok (.iconst 0, 1) := by decide +kernel
theorem dX9_keepTwin_12 : decode yX9_keepTwin.2.1 12 = .ok (.aload_n 0, 1) := by decide +kernel
theorem dX9_keepTwin_13 : decode yX9_keepTwin.2.1 13 = .ok (.getfield 9, 3) := by decide +kernel
theorem dX9_keepTwin_16 : decode yX9_keepTwin.2.1 16 = .ok (.iconst 0, 1) := by decide +kernel
theorem dX9_keepTwin_17 : decode yX9_keepTwin.2.1 17 = .ok (.aload_n 0, 1) := by decide +kernel
theorem dX9_keepTwin_18 : decode yX9_keepTwin.2.1 18 = .ok (.getfield 39, 3) := by decide +kernel
theorem dX9_keepTwin_21 : decode yX9_keepTwin.2.1 21 = .ok (.invokestatic 59, 3) := by decide +kernel
theorem dX9_keepTwin_24 : decode yX9_keepTwin.2.1 24 = .ok (.aload_n 0, 1) := by decide +kernel
theorem dX9_keepTwin_25 : decode yX9_keepTwin.2.1 25 = .ok (.dup, 1) := by decide +kernel
theorem dX9_keepTwin_26 : decode yX9_keepTwin.2.1 26 = .ok (.getfield 45, 3) := by decide +kernel
theorem dX9_keepTwin_29 : decode yX9_keepTwin.2.1 29 = .ok (.iconst 1, 1) := by decide +kernel
theorem dX9_keepTwin_30 : decode yX9_keepTwin.2.1 30 = .ok (.iadd, 1) := by decide +kernel
theorem dX9_keepTwin_31 : decode yX9_keepTwin.2.1 31 = .ok (.putfield 45, 3) := by decide +kernel
theorem dX9_keepTwin_34 : decode yX9_keepTwin.2.1 34 = .ok (.return_, 1) := by decide +kernel
theorem dX9_addLetter_0 : decode yX9_addLetter.2.1 0 = .ok (.aload_n 0, 1) := by decide +kernel
theorem dX9_addLetter_1 : decode yX9_addLetter.2.1 1 = .ok (.getfield 42, 3) := by decide +kernel
theorem dX9_addLetter_4 : decode yX9_addLetter.2.1 4 = .ok (.iconst 2, 1) := by decide +kernel
theorem dX9_addLetter_5 : decode yX9_addLetter.2.1 5 = .ok (.if_icmp .le 46, 3) := by decide +kernel
theorem dX9_addLetter_8 : decode yX9_addLetter.2.1 8 = .ok (.iconst 0, 1) := by decide +kernel
theorem dX9_addLetter_9 : decode yX9_addLetter.2.1 9 = .ok (.istore_n 2, 1) := by decide +kernel
theorem dX9_addLetter_10 : decode yX9_addLetter.2.1 10 = .ok (.iload_n 2, 1) := by decide +kernel
theorem dX9_addLetter_11 : decode yX9_addLetter.2.1 11 = .ok (.aload_n 0, 1) := by decide +kernel
theorem dX9_addLetter_12 : decode yX9_addLetter.2.1 12 = .ok (.getfield 30, 3) := by decide +kernel
theorem dX9_addLetter_15 : decode yX9_addLetter.2.1 15 = .ok (.aload_n 0, 1) := by decide +kernel
theorem dX9_addLetter_16 : decode yX9_addLetter.2.1 16 = .ok (.getfield 30, 3) := by decide +kernel
theorem dX9_addLetter_19 : decode yX9_addLetter.2.1 19 = .ok (.imul, 1) := by decide +kernel
theorem dX9_addLetter_20 : decode yX9_addLetter.2.1 20 = .ok (.if_icmp .ge 31, 3) := by decide +kernel
theorem dX9_addLetter_23 : decode yX9_addLetter.2.1 23 = .ok (.aload_n 0, 1) := by decide +kernel
theorem dX9_addLetter_24 : decode yX9_addLetter.2.1 24 = .ok (.getfield 24, 3) := by decide +kernel
theorem dX9_addLetter_27 : decode yX9_addLetter.2.1 27 = .ok (.iload_n 2, 1) := by decide +kernel
theorem dX9_addLetter_28 : decode yX9_addLetter.2.1 28 = .ok (.aload_n 0, 1) := by decide +kernel
theorem dX9_addLetter_29 : decode yX9_addLetter.2.1 29 = .ok (.getfield 30, 3) := by decide +kernel
theorem dX9_addLetter_32 : decode yX9_addLetter.2.1 32 = .ok (.imul, 1) := by decide +kernel
theorem dX9_addLetter_33 : decode yX9_addLetter.2.1 33 = .ok (.iload_n 1, 1) := by decide +kernel
theorem dX9_addLetter_34 : decode yX9_addLetter.2.1 34 = .ok (.iadd, 1) := by decide +kernel
theorem dX9_addLetter_35 : decode yX9_addLetter.2.1 35 = .ok (.dup2, 1) := by decide +kernel
theorem dX9_addLetter_36 : decode yX9_addLetter.2.1 36 = .ok (.iaload, 1) := by decide +kernel
theorem dX9_addLetter_37 : decode yX9_addLetter.2.1 37 = .ok (.aload_n 0, 1) := by decide +kernel
theorem dX9_addLetter_38 : decode yX9_addLetter.2.1 38 = .ok (.getfield 21, 3) := by decide +kernel
theorem dX9_addLetter_41 : decode yX9_addLetter.2.1 41 = .ok (.iload_n 2, 1) := by decide +kernel
theorem dX9_addLetter_42 : decode yX9_addLetter.2.1 42 = .ok (.iaload, 1) := by decide +kernel
theorem dX9_addLetter_43 : decode yX9_addLetter.2.1 43 = .ok (.iadd, 1) := by decide +kernel
theorem dX9_addLetter_44 : decode yX9_addLetter.2.1 44 = .ok (.iastore, 1) := by decide +kernel
theorem dX9_addLetter_45 : decode yX9_addLetter.2.1 45 = .ok (.iinc 2 1, 3) := by decide +kernel
theorem dX9_addLetter_48 : decode yX9_addLetter.2.1 48 = .ok (.goto (-38), 3) := by decide +kernel
theorem dX9_addLetter_51 : decode yX9_addLetter.2.1 51 = .ok (.iconst 0, 1) := by decide +kernel
theorem dX9_addLetter_52 : decode yX9_addLetter.2.1 52 = .ok (.istore_n 2, 1) := by decide +kernel
theorem dX9_addLetter_53 : decode yX9_addLetter.2.1 53 = .ok (.iload_n 2, 1) := by decide +kernel
theorem dX9_addLetter_54 : decode yX9_addLetter.2.1 54 = .ok (.aload_n 0, 1) := by decide +kernel
theorem dX9_addLetter_55 : decode yX9_addLetter.2.1 55 = .ok (.getfield 30, 3) := by decide +kernel
theorem dX9_addLetter_58 : decode yX9_addLetter.2.1 58 = .ok (.if_icmp .ge 31, 3) := by decide +kernel
theorem dX9_addLetter_61 : decode yX9_addLetter.2.1 61 = .ok (.aload_n 0, 1) := by decide +kernel
theorem dX9_addLetter_62 : decode yX9_addLetter.2.1 62 = .ok (.getfield 21, 3) := by decide +kernel
theorem dX9_addLetter_65 : decode yX9_addLetter.2.1 65 = .ok (.iload_n 2, 1) := by decide +kernel
theorem dX9_addLetter_66 : decode yX9_addLetter.2.1 66 = .ok (.aload_n 0, 1) := by decide +kernel
theorem dX9_addLetter_67 : decode yX9_addLetter.2.1 67 = .ok (.getfield 30, 3) := by decide +kernel
theorem dX9_addLetter_70 : decode yX9_addLetter.2.1 70 = .ok (.imul, 1) := by decide +kernel
theorem dX9_addLetter_71 : decode yX9_addLetter.2.1 71 = .ok (.iload_n 1, 1) := by decide +kernel
theorem dX9_addLetter_72 : decode yX9_addLetter.2.1 72 = .ok (.iadd, 1) := by decide +kernel
theorem dX9_addLetter_73 : decode yX9_addLetter.2.1 73 = .ok (.dup2, 1) := by decide +kernel
theorem dX9_addLetter_74 : decode yX9_addLetter.2.1 74 = .ok (.iaload, 1) := by decide +kernel
theorem dX9_addLetter_75 : decode yX9_addLetter.2.1 75 = .ok (.aload_n 0, 1) := by decide +kernel
theorem dX9_addLetter_76 : decode yX9_addLetter.2.1 76 = .ok (.getfield 18, 3) := by decide +kernel
theorem dX9_addLetter_79 : decode yX9_addLetter.2.1 79 = .ok (.iload_n 2, 1) := by decide +kernel
theorem dX9_addLetter_80 : decode yX9_addLetter.2.1 80 = .ok (.iaload, 1) := by decide +kernel
theorem dX9_addLetter_81 : decode yX9_addLetter.2.1 81 = .ok (.iadd, 1) := by decide +kernel
theorem dX9_addLetter_82 : decode yX9_addLetter.2.1 82 = .ok (.iastore, 1) := by decide +kernel
theorem dX9_addLetter_83 : decode yX9_addLetter.2.1 83 = .ok (.iinc 2 1, 3) := by decide +kernel
theorem dX9_addLetter_86 : decode yX9_addLetter.2.1 86 = .ok (.goto (-33), 3) := by decide +kernel
theorem dX9_addLetter_89 : decode yX9_addLetter.2.1 89 = .ok (.aload_n 0, 1) := by decide +kernel
theorem dX9_addLetter_90 : decode yX9_addLetter.2.1 90 = .ok (.getfield 18, 3) := by decide +kernel
theorem dX9_addLetter_93 : decode yX9_addLetter.2.1 93 = .ok (.iload_n 1, 1) := by decide +kernel
theorem dX9_addLetter_94 : decode yX9_addLetter.2.1 94 = .ok (.dup2, 1) := by decide +kernel
theorem dX9_addLetter_95 : decode yX9_addLetter.2.1 95 = .ok (.iaload, 1) := by decide +kernel
theorem dX9_addLetter_96 : decode yX9_addLetter.2.1 96 = .ok (.iconst 1, 1) := by decide +kernel
theorem dX9_addLetter_97 : decode yX9_addLetter.2.1 97 = .ok (.iadd, 1) := by decide +kernel
theorem dX9_addLetter_98 : decode yX9_addLetter.2.1 98 = .ok (.iastore, 1) := by decide +kernel
theorem dX9_addLetter_99 : decode yX9_addLetter.2.1 99 = .ok (.return_, 1) := by decide +kernel
theorem dX9_takeLetter_0 : decode yX9_takeLetter.2.1 0 = .ok (.aload_n 0, 1) := by decide +kernel
theorem dX9_takeLetter_1 : decode yX9_takeLetter.2.1 1 = .ok (.getfield 18, 3) := by decide +kernel
theorem dX9_takeLetter_4 : decode yX9_takeLetter.2.1 4 = .ok (.iload_n 1, 1) := by decide +kernel
theorem dX9_takeLetter_5 : decode yX9_takeLetter.2.1 5 = .ok (.dup2, 1) := by decide +kernel
theorem dX9_takeLetter_6 : decode yX9_takeLetter.2.1 6 = .ok (.iaload, 1) := by decide +kernel
theorem dX9_takeLetter_7 : decode yX9_takeLetter.2.1 7 = .ok (.iconst 1, 1) := by decide +kernel
theorem dX9_takeLetter_8 : decode yX9_takeLetter.2.1 8 = .ok (.isub, 1) := by decide +kernel
theorem dX9_takeLetter_9 : decode yX9_takeLetter.2.1 9 = .ok (.iastore, 1) := by decide +kernel
theorem dX9_takeLetter_10 : decode yX9_takeLetter.2.1 10 = .ok (.iconst 0, 1) := by decide +kernel
theorem dX9_takeLetter_11 : decode yX9_takeLetter.2.1 11 = .ok (.istore_n 2, 1) := by decide +kernel
theorem dX9_takeLetter_12 : decode yX9_takeLetter.2.1 12 = .ok (.iload_n 2, 1) := by decide +kernel
theorem dX9_takeLetter_13 : decode yX9_takeLetter.2.1 13 = .ok (.aload_n 0, 1) := by decide +kernel
theorem dX9_takeLetter_14 : decode yX9_takeLetter.2.1 14 = .ok (.getfield 30, 3) := by decide +kernel
theorem dX9_takeLetter_17 : decode yX9_takeLetter.2.1 17 = .ok (.if_icmp .ge 31, 3) := by decide +kernel
theorem dX9_takeLetter_20 : decode yX9_takeLetter.2.1 20 = .ok (.aload_n 0, 1) := by decide +kernel
theorem dX9_takeLetter_21 : decode yX9_takeLetter.2.1 21 = .ok (.getfield 21, 3) := by decide +kernel
theorem dX9_takeLetter_24 : decode yX9_takeLetter.2.1 24 = .ok (.iload_n 2, 1) := by decide +kernel
theorem dX9_takeLetter_25 : decode yX9_takeLetter.2.1 25 = .ok (.aload_n 0, 1) := by decide +kernel
theorem dX9_takeLetter_26 : decode yX9_takeLetter.2.1 26 = .ok (.getfield 30, 3) := by decide +kernel
theorem dX9_takeLetter_29 : decode yX9_takeLetter.2.1 29 = .ok (.imul, 1) := by decide +kernel
theorem dX9_takeLetter_30 : decode yX9_takeLetter.2.1 30 = .ok (.iload_n 1, 1) := by decide +kernel
theorem dX9_takeLetter_31 : decode yX9_takeLetter.2.1 31 = .ok (.iadd, 1) := by decide +kernel
theorem dX9_takeLetter_32 : decode yX9_takeLetter.2.1 32 = .ok (.dup2, 1) := by decide +kernel
theorem dX9_takeLetter_33 : decode yX9_takeLetter.2.1 33 = .ok (.iaload, 1) := by decide +kernel
theorem dX9_takeLetter_34 : decode yX9_takeLetter.2.1 34 = .ok (.aload_n 0, 1) := by decide +kernel
theorem dX9_takeLetter_35 : decode yX9_takeLetter.2.1 35 = .ok (.getfield 18, 3) := by decide +kernel
theorem dX9_takeLetter_38 : decode yX9_takeLetter.2.1 38 = .ok (.iload_n 2, 1) := by decide +kernel
theorem dX9_takeLetter_39 : decode yX9_takeLetter.2.1 39 = .ok (.iaload, 1) := by decide +kernel
theorem dX9_takeLetter_40 : decode yX9_takeLetter.2.1 40 = .ok (.isub, 1) := by decide +kernel
theorem dX9_takeLetter_41 : decode yX9_takeLetter.2.1 41 = .ok (.iastore, 1) := by decide +kernel
theorem dX9_takeLetter_42 : decode yX9_takeLetter.2.1 42 = .ok (.iinc 2 1, 3) := by decide +kernel
theorem dX9_takeLetter_45 : decode yX9_takeLetter.2.1 45 = .ok (.goto (-33), 3) := by decide +kernel
theorem dX9_takeLetter_48 : decode yX9_takeLetter.2.1 48 = .ok (.aload_n 0, 1) := by decide +kernel
theorem dX9_takeLetter_49 : decode yX9_takeLetter.2.1 49 = .ok (.getfield 42, 3) := by decide +kernel
theorem dX9_takeLetter_52 : decode yX9_takeLetter.2.1 52 = .ok (.iconst 2, 1) := by decide +kernel
theorem dX9_takeLetter_53 : decode yX9_takeLetter.2.1 53 = .ok (.if_icmp .le 46, 3) := by decide +kernel
theorem dX9_takeLetter_56 : decode yX9_takeLetter.2.1 56 = .ok (.iconst 0, 1) := by decide +kernel
theorem dX9_takeLetter_57 : decode yX9_takeLetter.2.1 57 = .ok (.istore_n 2, 1) := by decide +kernel
theorem dX9_takeLetter_58 : decode yX9_takeLetter.2.1 58 = .ok (.iload_n 2, 1) := by decide +kernel
theorem dX9_takeLetter_59 : decode yX9_takeLetter.2.1 59 = .ok (.aload_n 0, 1) := by decide +kernel
theorem dX9_takeLetter_60 : decode yX9_takeLetter.2.1 60 = .ok (.getfield 30, 3) := by decide +kernel
theorem dX9_takeLetter_63 : decode yX9_takeLetter.2.1 63 = .ok (.aload_n 0, 1) := by decide +kernel
theorem dX9_takeLetter_64 : decode yX9_takeLetter.2.1 64 = .ok (.getfield 30, 3) := by decide +kernel
theorem dX9_takeLetter_67 : decode yX9_takeLetter.2.1 67 = .ok (.imul, 1) := by decide +kernel
theorem dX9_takeLetter_68 : decode yX9_takeLetter.2.1 68 = .ok (.if_icmp .ge 31, 3) := by decide +kernel
theorem dX9_takeLetter_71 : decode yX9_takeLetter.2.1 71 = .ok (.aload_n 0, 1) := by decide +kernel
theorem dX9_takeLetter_72 : decode yX9_takeLetter.2.1 72 = .ok (.getfield 24, 3) := by decide +kernel
theorem dX9_takeLetter_75 : decode yX9_takeLetter.2.1 75 = .ok (.iload_n 2, 1) := by decide +kernel
theorem dX9_takeLetter_76 : decode yX9_takeLetter.2.1 76 = .ok (.aload_n 0, 1) := by decide +kernel
theorem dX9_takeLetter_77 : decode yX9_takeLetter.2.1 77 = .ok (.getfield 30, 3) := by decide +kernel
theorem dX9_takeLetter_80 : decode yX9_takeLetter.2.1 80 = .ok (.imul, 1) := by decide +kernel
theorem dX9_takeLetter_81 : decode yX9_takeLetter.2.1 81 = .ok (.iload_n 1, 1) := by decide +kernel
theorem dX9_takeLetter_82 : decode yX9_takeLetter.2.1 82 = .ok (.iadd, 1) := by decide +kernel
theorem dX9_takeLetter_83 : decode yX9_takeLetter.2.1 83 = .ok (.dup2, 1) := by decide +kernel
theorem dX9_takeLetter_84 : decode yX9_takeLetter.2.1 84 = .ok (.iaload, 1) := by decide +kernel
theorem dX9_takeLetter_85 : decode yX9_takeLetter.2.1 85 = .ok (.aload_n 0, 1) := by decide +kernel
theorem dX9_takeLetter_86 : decode yX9_takeLetter.2.1 86 = .ok (.getfield 21, 3) := by decide +kernel
theorem dX9_takeLetter_89 : decode yX9_takeLetter.2.1 89 = .ok (.iload_n 2, 1) := by decide +kernel
theorem dX9_takeLetter_90 : decode yX9_takeLetter.2.1 90 = .ok (.iaload, 1) := by decide +kernel
theorem dX9_takeLetter_91 : decode yX9_takeLetter.2.1 91 = .ok (.isub, 1) := by decide +kernel
theorem dX9_takeLetter_92 : decode yX9_takeLetter.2.1 92 = .ok (.iastore, 1) := by decide +kernel
theorem dX9_takeLetter_93 : decode yX9_takeLetter.2.1 93 = .ok (.iinc 2 1, 3) := by decide +kernel
theorem dX9_takeLetter_96 : decode yX9_takeLetter.2.1 96 = .ok (.goto (-38), 3) := by decide +kernel
theorem dX9_takeLetter_99 : decode yX9_takeLetter.2.1 99 = .ok (.return_, 1) := by decide +kernel
theorem dX9_hasTooMany_0 : decode yX9_hasTooMany.2.1 0 = .ok (.aload_n 0, 1) := by decide +kernel
theorem dX9_hasTooMany_1 : decode yX9_hasTooMany.2.1 1 = .ok (.invokevirtual 55, 3) := by decide +kernel
theorem dX9_hasTooMany_4 : decode yX9_hasTooMany.2.1 4 = .ok (.astore_n 2, 1) := by decide +kernel
theorem dX9_hasTooMany_5 : decode yX9_hasTooMany.2.1 5 = .ok (.iconst 1, 1) := by decide +kernel
theorem dX9_hasTooMany_6 : decode yX9_hasTooMany.2.1 6 = .ok (.istore_n 3, 1) := by decide +kernel
theorem dX9_hasTooMany_7 : decode yX9_hasTooMany.2.1 7 = .ok (.iconst 1, 1) := by decide +kernel
theorem dX9_hasTooMany_8 : decode yX9_hasTooMany.2.1 8 = .ok (.istore 4, 2) := by decide +kernel
theorem dX9_hasTooMany_10 : decode yX9_hasTooMany.2.1 10 = .ok (.iload 4, 2) := by decide +kernel
theorem dX9_hasTooMany_12 : decode yX9_hasTooMany.2.1 12 = .ok (.aload_n 0, 1) := by decide +kernel
theorem dX9_hasTooMany_13 : decode yX9_hasTooMany.2.1 13 = .ok (.getfield 42, 3) := by decide +kernel
theorem dX9_hasTooMany_16 : decode yX9_hasTooMany.2.1 16 = .ok (.if_icmp .ge 16, 3) := by decide +kernel
theorem dX9_hasTooMany_19 : decode yX9_hasTooMany.2.1 19 = .ok (.iload_n 3, 1) := by decide +kernel
theorem dX9_hasTooMany_20 : decode yX9_hasTooMany.2.1 20 = .ok (.aload_n 0, 1) := by decide +kernel
theorem dX9_hasTooMany_21 : decode yX9_hasTooMany.2.1 21 = .ok (.getfield 30, 3) := by decide +kernel
theorem dX9_hasTooMany_24 : decode yX9_hasTooMany.2.1 24 = .ok (.imul, 1) := by decide +kernel
theorem dX9_hasTooMany_25 : decode yX9_hasTooMany.2.1 25 = .ok (.istore_n 3, 1) := by decide +kernel
theorem dX9_hasTooMany_26 : decode yX9_hasTooMany.2.1 26 = .ok (.iinc 4 1, 3) := by decide +kernel
theorem dX9_hasTooMany_29 : decode yX9_hasTooMany.2.1 29 = .ok (.goto (-19), 3) := by decide +kernel
theorem dX9_hasTooMany_32 : decode yX9_hasTooMany.2.1 32 = .ok (.iconst 0, 1) := by decide +kernel
theorem dX9_hasTooMany_33 : decode yX9_hasTooMany.2.1 33 = .ok (.istore 4, 2) := by decide +kernel
theorem dX9_hasTooMany_35 : decode yX9_hasTooMany.2.1 35 = .ok (.iload 4, 2) := by decide +kernel
theorem dX9_hasTooMany_37 : decode yX9_hasTooMany.2.1 37 = .ok (.iload_n 3, 1) := by decide +kernel
theorem dX9_hasTooMany_38 : decode yX9_hasTooMany.2.1 38 = .ok (.if_icmp .ge 39, 3) := by decide +kernel
theorem dX9_hasTooMany_41 : decode yX9_hasTooMany.2.1 41 = .ok (.aload_n 2, 1) := by decide +kernel
theorem dX9_hasTooMany_42 : decode yX9_hasTooMany.2.1 42 = .ok (.iload 4, 2) := by decide +kernel
theorem dX9_hasTooMany_44 : decode yX9_hasTooMany.2.1 44 = .ok (.aload_n 0, 1) := by decide +kernel
theorem dX9_hasTooMany_45 : decode yX9_hasTooMany.2.1 45 = .ok (.getfield 30, 3) := by decide +kernel
theorem dX9_hasTooMany_48 : decode yX9_hasTooMany.2.1 48 = .ok (.imul, 1) := by decide +kernel
theorem dX9_hasTooMany_49 : decode yX9_hasTooMany.2.1 49 = .ok (.iload_n 1, 1) := by decide +kernel
theorem dX9_hasTooMany_50 : decode yX9_hasTooMany.2.1 50 = .ok (.iadd, 1) := by decide +kernel
theorem dX9_hasTooMany_51 : decode yX9_hasTooMany.2.1 51 = .ok (.iaload, 1) := by decide +kernel
theorem dX9_hasTooMany_52 : decode yX9_hasTooMany.2.1 52 = .ok (.aload_n 0, 1) := by decide +kernel
theorem dX9_hasTooMany_53 : decode yX9_hasTooMany.2.1 53 = .ok (.getfield 27, 3) := by decide +kernel
theorem dX9_hasTooMany_56 : decode yX9_hasTooMany.2.1 56 = .ok (.iload 4, 2) := by decide +kernel
theorem dX9_hasTooMany_58 : decode yX9_hasTooMany.2.1 58 = .ok (.aload_n 0, 1) := by decide +kernel
theorem dX9_hasTooMany_59 : decode yX9_hasTooMany.2.1 59 = .ok (.getfield 30, 3) := by decide +kernel
theorem dX9_hasTooMany_62 : decode yX9_hasTooMany.2.1 62 = .ok (.imul, 1) := by decide +kernel
theorem dX9_hasTooMany_63 : decode yX9_hasTooMany.2.1 63 = .ok (.iload_n 1, 1) := by decide +kernel
theorem dX9_hasTooMany_64 : decode yX9_hasTooMany.2.1 64 = .ok (.iadd, 1) := by decide +kernel
theorem dX9_hasTooMany_65 : decode yX9_hasTooMany.2.1 65 = .ok (.iaload, 1) := by decide +kernel
theorem dX9_hasTooMany_66 : decode yX9_hasTooMany.2.1 66 = .ok (.if_icmp .le 5, 3) := by decide +kernel
theorem dX9_hasTooMany_69 : decode yX9_hasTooMany.2.1 69 = .ok (.iconst 1, 1) := by decide +kernel
theorem dX9_hasTooMany_70 : decode yX9_hasTooMany.2.1 70 = .ok (.ireturn, 1) := by decide +kernel
theorem dX9_hasTooMany_71 : decode yX9_hasTooMany.2.1 71 = .ok (.iinc 4 1, 3) := by decide +kernel
theorem dX9_hasTooMany_74 : decode yX9_hasTooMany.2.1 74 = .ok (.goto (-39), 3) := by decide +kernel
theorem dX9_hasTooMany_77 : decode yX9_hasTooMany.2.1 77 = .ok (.iconst 0, 1) := by decide +kernel
theorem dX9_hasTooMany_78 : decode yX9_hasTooMany.2.1 78 = .ok (.ireturn, 1) := by decide +kernel
theorem dX10_init_0 : decode yX10_init.2.1 0 = .ok (.aload_n 0, 1) := by decide +kernel
theorem dX10_init_1 : decode yX10_init.2.1 1 = .ok (.invokespecial 3, 3) := by decide +kernel
theorem dX10_init_4 : decode yX10_init.2.1 4 = .ok (.aload_n 0, 1) := by decide +kernel
theorem dX10_init_5 : decode yX10_init.2.1 5 = .ok (.new 9, 3) := by decide +kernel
theorem dX10_init_8 : decode yX10_init.2.1 8 = .ok (.dup, 1) := by decide +kernel
theorem dX10_init_9 : decode yX10_init.2.1 9 = .ok (.bipush 40, 2) := by decide +kernel
theorem dX10_init_11 : decode yX10_init.2.1 11 = .ok (.invokespecial 11, 3) := by decide +kernel
theorem dX10_init_14 : decode yX10_init.2.1 14 = .ok (.putfield 14, 3) := by decide +kernel
theorem dX10_init_17 : decode yX10_init.2.1 17 = .ok (.return_, 1) := by decide +kernel
theorem dX10_become_0 : decode yX10_become.2.1 0 = .ok (.aload_n 0, 1) := by decide +kernel
theorem dX10_become_1 : decode yX10_become.2.1 1 = .ok (.iload_n 3, 1) := by decide +kernel
theorem dX10_become_2 : decode yX10_become.2.1 2 = .ok (.putfield 20, 3) := by decide +kernel
theorem dX10_become_5 : decode yX10_become.2.1 5 = .ok (.aload_n 0, 1) := by decide +kernel
theorem dX10_become_6 : decode yX10_become.2.1 6 = .ok (.iload 4, 2) := by decide +kernel
theorem dX10_become_8 : decode yX10_become.2.1 8 = .ok (.putfield 24, 3) := by decide +kernel
theorem dX10_become_11 : decode yX10_become.2.1 11 = .ok (.aload_n 0, 1) := by decide +kernel
theorem dX10_become_12 : decode yX10_become.2.1 12 = .ok (.iload 5, 2) := by decide +kernel
theorem dX10_become_14 : decode yX10_become.2.1 14 = .ok (.putfield 27, 3) := by decide +kernel
theorem dX10_become_17 : decode yX10_become.2.1 17 = .ok (.aload_n 0, 1) := by decide +kernel
theorem dX10_become_18 : decode yX10_become.2.1 18 = .ok (.getfield 14, 3) := by decide +kernel
theorem dX10_become_21 : decode yX10_become.2.1 21 = .ok (.aload_n 1, 1) := by decide +kernel
theorem dX10_become_22 : decode yX10_become.2.1 22 = .ok (.iload_n 2, 1) := by decide +kernel
theorem dX10_become_23 : decode yX10_become.2.1 23 = .ok (.invokevirtual 30, 3) := by decide +kernel
theorem dX10_become_26 : decode yX10_become.2.1 26 = .ok (.ireturn, 1) := by decide +kernel
theorem dX10_is_0 : decode yX10_is.2.1 0 = .ok (.aload_n 0, 1) := by decide +kernel
theorem dX10_is_1 : decode yX10_is.2.1 1 = .ok (.getfield 20, 3) := by decide +kernel
theorem dX10_is_4 : decode yX10_is.2.1 4 = .ok (.iload_n 1, 1) := by decide +kernel
theorem dX10_is_5 : decode yX10_is.2.1 5 = .ok (.if_icmp .eq 16, 3) := by decide +kernel
theorem dX10_is_8 : decode yX10_is.2.1 8 = .ok (.iload_n 1, 1) := by decide +kernel
theorem dX10_is_9 : decode yX10_is.2.1 9 = .ok (.iconst 2, 1) := by decide +kernel
theorem dX10_is_10 : decode yX10_is.2.1 10 = .ok (.if_icmp .ne 15, 3) := by decide +kernel
theorem dX10_is_13 : decode yX10_is.2.1 13 = .ok (.aload_n 0, 1) := by decide +kernel
theorem dX10_is_14 : decode yX10_is.2.1 14 = .ok (.getfield 20, 3) := by decide +kernel
theorem dX10_is_17 : decode yX10_is.2.1 17 = .ok (.iconst 2, 1) := by decide +kernel
theorem dX10_is_18 : decode yX10_is.2.1 18 = .ok (.if_icmp .le 7, 3) := by decide +kernel
theorem dX10_is_21 : decode yX10_is.2.1 21 = .ok (.iconst 1, 1) := by decide +kernel
theorem dX10_is_22 : decode yX10_is.2.1 22 = .ok (.goto 4, 3) := by decide +kernel
theorem dX10_is_25 : decode yX10_is.2.1 25 = .ok (.iconst 0, 1) := by decide +kernel
theorem dX10_is_26 : decode yX10_is.2.1 26 = .ok (.ireturn, 1) := by decide +kernel
theorem dX10_markOf_0 : decode yX10_markOf.2.1 0 = .ok (.iload_n 1, 1) := by decide +kernel
theorem dX10_markOf_1 : decode yX10_markOf.2.1 1 = .ok (.iconst 2, 1) := by decide +kernel
theorem dX10_markOf_2 : decode yX10_markOf.2.1 2 = .ok (.if_icmp .ne 10, 3) := by decide +kernel
theorem dX10_markOf_5 : decode yX10_markOf.2.1 5 = .ok (.aload_n 0, 1) := by decide +kernel
theorem dX10_markOf_6 : decode yX10_markOf.2.1 6 = .ok (.getfield 24, 3) := by decide +kernel
theorem dX10_markOf_9 : decode yX10_markOf.2.1 9 = .ok (.goto 7, 3) := by decide +kernel
theorem dX10_markOf_12 : decode yX10_markOf.2.1 12 = .ok (.aload_n 0, 1) := by decide +kernel
theorem dX10_markOf_13 : decode yX10_markOf.2.1 13 = .ok (.getfield 27, 3) := by decide +kernel
theorem dX10_markOf_16 : decode yX10_markOf.2.1 16 = .ok (.ireturn, 1) := by decide +kernel
theorem dJ6_bitCount_0f7a4_0 : decode yJ6_bitCount_0f7a4.2.1 0 = .ok (.iload_n 0, 1) := by decide +kernel
theorem dJ6_bitCount_0f7a4_1 : decode yJ6_bitCount_0f7a4.2.1 1 = .ok (.iload_n 0, 1) := by decide +kernel
theorem dJ6_bitCount_0f7a4_2 : decode yJ6_bitCount_0f7a4.2.1 2 = .ok (.iconst 1, 1) := by decide +kernel
theorem dJ6_bitCount_0f7a4_3 : decode yJ6_bitCount_0f7a4.2.1 3 = .ok (.iushr, 1) := by decide +kernel
theorem dJ6_bitCount_0f7a4_4 : decode yJ6_bitCount_0f7a4.2.1 4 = .ok (.ldc_w 265, 3) := by decide +kernel
theorem dJ6_bitCount_0f7a4_7 : decode yJ6_bitCount_0f7a4.2.1 7 = .ok (.iand, 1) := by decide +kernel
theorem dJ6_bitCount_0f7a4_8 : decode yJ6_bitCount_0f7a4.2.1 8 = .ok (.isub, 1) := by decide +kernel
theorem dJ6_bitCount_0f7a4_9 : decode yJ6_bitCount_0f7a4.2.1 9 = .ok (.istore_n 0, 1) := by decide +kernel
theorem dJ6_bitCount_0f7a4_10 : decode yJ6_bitCount_0f7a4.2.1 10 = .ok (.iload_n 0, 1) := by decide +kernel
theorem dJ6_bitCount_0f7a4_11 : decode yJ6_bitCount_0f7a4.2.1 11 = .ok (.ldc_w 266, 3) := by decide +kernel
theorem dJ6_bitCount_0f7a4_14 : decode yJ6_bitCount_0f7a4.2.1 14 = .ok (.iand, 1) := by decide +kernel
theorem dJ6_bitCount_0f7a4_15 : decode yJ6_bitCount_0f7a4.2.1 15 = .ok (.iload_n 0, 1) := by decide +kernel
theorem dJ6_bitCount_0f7a4_16 : decode yJ6_bitCount_0f7a4.2.1 16 = .ok (.iconst 2, 1) := by decide +kernel
theorem dJ6_bitCount_0f7a4_17 : decode yJ6_bitCount_0f7a4.2.1 17 = .ok (.iushr, 1) := by decide +kernel
theorem dJ6_bitCount_0f7a4_18 : decode yJ6_bitCount_0f7a4.2.1 18 = .ok (.ldc_w 266, 3) := by decide +kernel
theorem dJ6_bitCount_0f7a4_21 : decode yJ6_bitCount_0f7a4.2.1 21 = .ok (.iand, 1) := by decide +kernel
theorem dJ6_bitCount_0f7a4_22 : decode yJ6_bitCount_0f7a4.2.1 22 = .ok (.iadd, 1) := by decide +kernel
theorem dJ6_bitCount_0f7a4_23 : decode yJ6_bitCount_0f7a4.2.1 23 = .ok (.istore_n 0, 1) := by decide +kernel
theorem dJ6_bitCount_0f7a4_24 : decode yJ6_bitCount_0f7a4.2.1 24 = .ok (.iload_n 0, 1) := by decide +kernel
theorem dJ6_bitCount_0f7a4_25 : decode yJ6_bitCount_0f7a4.2.1 25 = .ok (.iload_n 0, 1) := by decide +kernel
theorem dJ6_bitCount_0f7a4_26 : decode yJ6_bitCount_0f7a4.2.1 26 = .ok (.iconst 4, 1) := by decide +kernel
theorem dJ6_bitCount_0f7a4_27 : decode yJ6_bitCount_0f7a4.2.1 27 = .ok (.iushr, 1) := by decide +kernel
theorem dJ6_bitCount_0f7a4_28 : decode yJ6_bitCount_0f7a4.2.1 28 = .ok (.iadd, 1) := by decide +kernel
theorem dJ6_bitCount_0f7a4_29 : decode yJ6_bitCount_0f7a4.2.1 29 = .ok (.ldc_w 267, 3) := by decide +kernel
theorem dJ6_bitCount_0f7a4_32 : decode yJ6_bitCount_0f7a4.2.1 32 = .ok (.iand, 1) := by decide +kernel
theorem dJ6_bitCount_0f7a4_33 : decode yJ6_bitCount_0f7a4.2.1 33 = .ok (.istore_n 0, 1) := by decide +kernel
theorem dJ6_bitCount_0f7a4_34 : decode yJ6_bitCount_0f7a4.2.1 34 = .ok (.iload_n 0, 1) := by decide +kernel
theorem dJ6_bitCount_0f7a4_35 : decode yJ6_bitCount_0f7a4.2.1 35 = .ok (.iload_n 0, 1) := by decide +kernel
theorem dJ6_bitCount_0f7a4_36 : decode yJ6_bitCount_0f7a4.2.1 36 = .ok (.bipush 8, 2) := by decide +kernel
theorem dJ6_bitCount_0f7a4_38 : decode yJ6_bitCount_0f7a4.2.1 38 = .ok (.iushr, 1) := by decide +kernel
theorem dJ6_bitCount_0f7a4_39 : decode yJ6_bitCount_0f7a4.2.1 39 = .ok (.iadd, 1) := by decide +kernel
theorem dJ6_bitCount_0f7a4_40 : decode yJ6_bitCount_0f7a4.2.1 40 = .ok (.istore_n 0, 1) := by decide +kernel
theorem dJ6_bitCount_0f7a4_41 : decode yJ6_bitCount_0f7a4.2.1 41 = .ok (.iload_n 0, 1) := by decide +kernel
theorem dJ6_bitCount_0f7a4_42 : decode yJ6_bitCount_0f7a4.2.1 42 = .ok (.iload_n 0, 1) := by decide +kernel
theorem dJ6_bitCount_0f7a4_43 : decode yJ6_bitCount_0f7a4.2.1 43 = .ok (.bipush 16, 2) := by decide +kernel
theorem dJ6_bitCount_0f7a4_45 : decode yJ6_bitCount_0f7a4.2.1 45 = .ok (.iushr, 1) := by decide +kernel
theorem dJ6_bitCount_0f7a4_46 : decode yJ6_bitCount_0f7a4.2.1 46 = .ok (.iadd, 1) := by decide +kernel
theorem dJ6_bitCount_0f7a4_47 : decode yJ6_bitCount_0f7a4.2.1 47 = .ok (.istore_n 0, 1) := by decide +kernel
theorem dJ6_bitCount_0f7a4_48 : decode yJ6_bitCount_0f7a4.2.1 48 = .ok (.iload_n 0, 1) := by decide +kernel
theorem dJ6_bitCount_0f7a4_49 : decode yJ6_bitCount_0f7a4.2.1 49 = .ok (.bipush 63, 2) := by decide +kernel
theorem dJ6_bitCount_0f7a4_51 : decode yJ6_bitCount_0f7a4.2.1 51 = .ok (.iand, 1) := by decide +kernel
theorem dJ6_bitCount_0f7a4_52 : decode yJ6_bitCount_0f7a4.2.1 52 = .ok (.ireturn, 1) := by decide +kernel
theorem dJ13_bitCount_95d88_0 : decode yJ13_bitCount_95d88.2.1 0 = .ok (.lload_n 0, 1) := by decide +kernel
theorem dJ13_bitCount_95d88_1 : decode yJ13_bitCount_95d88.2.1 1 = .ok (.lload_n 0, 1) := by decide +kernel
theorem dJ13_bitCount_95d88_2 : decode yJ13_bitCount_95d88.2.1 2 = .ok (.iconst 1, 1) := by decide +kernel
theorem dJ13_bitCount_95d88_3 : decode yJ13_bitCount_95d88.2.1 3 = .ok (.lushr, 1) := by decide +kernel
theorem dJ13_bitCount_95d88_4 : decode yJ13_bitCount_95d88.2.1 4 = .ok (.ldc2_w 314, 3) := by decide +kernel
theorem dJ13_bitCount_95d88_7 : decode yJ13_bitCount_95d88.2.1 7 = .ok (.land, 1) := by decide +kernel
theorem dJ13_bitCount_95d88_8 : decode yJ13_bitCount_95d88.2.1 8 = .ok (.lsub, 1) := by decide +kernel
theorem dJ13_bitCount_95d88_9 : decode yJ13_bitCount_95d88.2.1 9 = .ok (.lstore_n 0, 1) := by decide +kernel
theorem dJ13_bitCount_95d88_10 : decode yJ13_bitCount_95d88.2.1 10 = .ok (.lload_n 0, 1) := by decide +kernel
theorem dJ13_bitCount_95d88_11 : decode yJ13_bitCount_95d88.2.1 11 = .ok (.ldc2_w 316, 3) := by decide +kernel
theorem dJ13_bitCount_95d88_14 : decode yJ13_bitCount_95d88.2.1 14 = .ok (.land, 1) := by decide +kernel
theorem dJ13_bitCount_95d88_15 : decode yJ13_bitCount_95d88.2.1 15 = .ok (.lload_n 0, 1) := by decide +kernel
theorem dJ13_bitCount_95d88_16 : decode yJ13_bitCount_95d88.2.1 16 = .ok (.iconst 2, 1) := by decide +kernel
theorem dJ13_bitCount_95d88_17 : decode yJ13_bitCount_95d88.2.1 17 = .ok (.lushr, 1) := by decide +kernel
theorem dJ13_bitCount_95d88_18 : decode yJ13_bitCount_95d88.2.1 18 = .ok (.ldc2_w 316, 3) := by decide +kernel
theorem dJ13_bitCount_95d88_21 : decode yJ13_bitCount_95d88.2.1 21 = .ok (.land, 1) := by decide +kernel
theorem dJ13_bitCount_95d88_22 : decode yJ13_bitCount_95d88.2.1 22 = .ok (.ladd, 1) := by decide +kernel
theorem dJ13_bitCount_95d88_23 : decode yJ13_bitCount_95d88.2.1 23 = .ok (.lstore_n 0, 1) := by decide +kernel
theorem dJ13_bitCount_95d88_24 : decode yJ13_bitCount_95d88.2.1 24 = .ok (.lload_n 0, 1) := by decide +kernel
theorem dJ13_bitCount_95d88_25 : decode yJ13_bitCount_95d88.2.1 25 = .ok (.lload_n 0, 1) := by decide +kernel
theorem dJ13_bitCount_95d88_26 : decode yJ13_bitCount_95d88.2.1 26 = .ok (.iconst 4, 1) := by decide +kernel
theorem dJ13_bitCount_95d88_27 : decode yJ13_bitCount_95d88.2.1 27 = .ok (.lushr, 1) := by decide +kernel
theorem dJ13_bitCount_95d88_28 : decode yJ13_bitCount_95d88.2.1 28 = .ok (.ladd, 1) := by decide +kernel
theorem dJ13_bitCount_95d88_29 : decode yJ13_bitCount_95d88.2.1 29 = .ok (.ldc2_w 318, 3) := by decide +kernel
theorem dJ13_bitCount_95d88_32 : decode yJ13_bitCount_95d88.2.1 32 = .ok (.land, 1) := by decide +kernel
theorem dJ13_bitCount_95d88_33 : decode yJ13_bitCount_95d88.2.1 33 = .ok (.lstore_n 0, 1) := by decide +kernel
theorem dJ13_bitCount_95d88_34 : decode yJ13_bitCount_95d88.2.1 34 = .ok (.lload_n 0, 1) := by decide +kernel
theorem dJ13_bitCount_95d88_35 : decode yJ13_bitCount_95d88.2.1 35 = .ok (.lload_n 0, 1) := by decide +kernel
theorem dJ13_bitCount_95d88_36 : decode yJ13_bitCount_95d88.2.1 36 = .ok (.bipush 8, 2) := by decide +kernel
theorem dJ13_bitCount_95d88_38 : decode yJ13_bitCount_95d88.2.1 38 = .ok (.lushr, 1) := by decide +kernel
theorem dJ13_bitCount_95d88_39 : decode yJ13_bitCount_95d88.2.1 39 = .ok (.ladd, 1) := by decide +kernel
theorem dJ13_bitCount_95d88_40 : decode yJ13_bitCount_95d88.2.1 40 = .ok (.lstore_n 0, 1) := by decide +kernel
theorem dJ13_bitCount_95d88_41 : decode yJ13_bitCount_95d88.2.1 41 = .ok (.lload_n 0, 1) := by decide +kernel
theorem dJ13_bitCount_95d88_42 : decode yJ13_bitCount_95d88.2.1 42 = .ok (.lload_n 0, 1) := by decide +kernel
theorem dJ13_bitCount_95d88_43 : decode yJ13_bitCount_95d88.2.1 43 = .ok (.bipush 16, 2) := by decide +kernel
theorem dJ13_bitCount_95d88_45 : decode yJ13_bitCount_95d88.2.1 45 = .ok (.lushr, 1) := by decide +kernel
theorem dJ13_bitCount_95d88_46 : decode yJ13_bitCount_95d88.2.1 46 = .ok (.ladd, 1) := by decide +kernel
theorem dJ13_bitCount_95d88_47 : decode yJ13_bitCount_95d88.2.1 47 = .ok (.lstore_n 0, 1) := by decide +kernel
theorem dJ13_bitCount_95d88_48 : decode yJ13_bitCount_95d88.2.1 48 = .ok (.lload_n 0, 1) := by decide +kernel
theorem dJ13_bitCount_95d88_49 : decode yJ13_bitCount_95d88.2.1 49 = .ok (.lload_n 0, 1) := by decide +kernel
theorem dJ13_bitCount_95d88_50 : decode yJ13_bitCount_95d88.2.1 50 = .ok (.bipush 32, 2) := by decide +kernel
theorem dJ13_bitCount_95d88_52 : decode yJ13_bitCount_95d88.2.1 52 = .ok (.lushr, 1) := by decide +kernel
theorem dJ13_bitCount_95d88_53 : decode yJ13_bitCount_95d88.2.1 53 = .ok (.ladd, 1) := by decide +kernel
theorem dJ13_bitCount_95d88_54 : decode yJ13_bitCount_95d88.2.1 54 = .ok (.lstore_n 0, 1) := by decide +kernel
theorem dJ13_bitCount_95d88_55 : decode yJ13_bitCount_95d88.2.1 55 = .ok (.lload_n 0, 1) := by decide +kernel
theorem dJ13_bitCount_95d88_56 : decode yJ13_bitCount_95d88.2.1 56 = .ok (.l2i, 1) := by decide +kernel
theorem dJ13_bitCount_95d88_57 : decode yJ13_bitCount_95d88.2.1 57 = .ok (.bipush 127, 2) := by decide +kernel
theorem dJ13_bitCount_95d88_59 : decode yJ13_bitCount_95d88.2.1 59 = .ok (.iand, 1) := by decide +kernel
theorem dJ13_bitCount_95d88_60 : decode yJ13_bitCount_95d88.2.1 60 = .ok (.ireturn, 1) := by decide +kernel
